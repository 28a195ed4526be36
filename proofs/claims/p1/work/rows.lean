section
def nthD : List Nat → Nat → Nat
  | [], _ => 9
  | a :: _, 0 => a
  | _ :: l, n + 1 => nthD l n
/-- of a kind of cell: 0 an object, 1 int row, 2 byte row, 3 long row, 4 the script -/
def kTag (k : Nat) : Nat := cond (Nat.blt k 31) (cond (Nat.blt k 11) (cond (Nat.blt k 5) (cond (Nat.blt k 2) (cond (Nat.blt k 1) (cond (Nat.beq k 0) (0) (9)) (cond (Nat.beq k 1) (1) (9))) (cond (Nat.blt k 3) (cond (Nat.beq k 2) (0) (9)) (cond (Nat.blt k 4) (cond (Nat.beq k 3) (1) (9)) (cond (Nat.beq k 4) (1) (9))))) (cond (Nat.blt k 8) (cond (Nat.blt k 6) (cond (Nat.beq k 5) (1) (9)) (cond (Nat.blt k 7) (cond (Nat.beq k 6) (0) (9)) (cond (Nat.beq k 7) (1) (9)))) (cond (Nat.blt k 9) (cond (Nat.beq k 8) (0) (9)) (cond (Nat.blt k 10) (cond (Nat.beq k 9) (0) (9)) (cond (Nat.beq k 10) (1) (9)))))) (cond (Nat.blt k 16) (cond (Nat.blt k 13) (cond (Nat.blt k 12) (cond (Nat.beq k 11) (0) (9)) (cond (Nat.beq k 12) (0) (9))) (cond (Nat.blt k 14) (cond (Nat.beq k 13) (1) (9)) (cond (Nat.blt k 15) (cond (Nat.beq k 14) (0) (9)) (cond (Nat.beq k 15) (3) (9))))) (cond (Nat.blt k 19) (cond (Nat.blt k 17) (cond (Nat.beq k 16) (1) (9)) (cond (Nat.blt k 18) (cond (Nat.beq k 17) (1) (9)) (cond (Nat.beq k 18) (1) (9)))) (cond (Nat.blt k 20) (cond (Nat.beq k 19) (1) (9)) (cond (Nat.blt k 30) (cond (Nat.beq k 20) (1) (9)) (cond (Nat.beq k 30) (0) (9))))))) (cond (Nat.blt k 42) (cond (Nat.blt k 36) (cond (Nat.blt k 33) (cond (Nat.blt k 32) (cond (Nat.beq k 31) (2) (9)) (cond (Nat.beq k 32) (1) (9))) (cond (Nat.blt k 34) (cond (Nat.beq k 33) (1) (9)) (cond (Nat.blt k 35) (cond (Nat.beq k 34) (1) (9)) (cond (Nat.beq k 35) (1) (9))))) (cond (Nat.blt k 39) (cond (Nat.blt k 37) (cond (Nat.beq k 36) (1) (9)) (cond (Nat.blt k 38) (cond (Nat.beq k 37) (1) (9)) (cond (Nat.beq k 38) (1) (9)))) (cond (Nat.blt k 40) (cond (Nat.beq k 39) (1) (9)) (cond (Nat.blt k 41) (cond (Nat.beq k 40) (1) (9)) (cond (Nat.beq k 41) (1) (9)))))) (cond (Nat.blt k 47) (cond (Nat.blt k 44) (cond (Nat.blt k 43) (cond (Nat.beq k 42) (1) (9)) (cond (Nat.beq k 43) (1) (9))) (cond (Nat.blt k 45) (cond (Nat.beq k 44) (1) (9)) (cond (Nat.blt k 46) (cond (Nat.beq k 45) (1) (9)) (cond (Nat.beq k 46) (1) (9))))) (cond (Nat.blt k 50) (cond (Nat.blt k 48) (cond (Nat.beq k 47) (1) (9)) (cond (Nat.blt k 49) (cond (Nat.beq k 48) (1) (9)) (cond (Nat.beq k 49) (1) (9)))) (cond (Nat.blt k 51) (cond (Nat.beq k 50) (1) (9)) (cond (Nat.blt k 999) (cond (Nat.beq k 51) (1) (9)) (cond (Nat.beq k 999) (4) (9)))))))
def kLen (k : Nat) : Nat := cond (Nat.blt k 31) (cond (Nat.blt k 11) (cond (Nat.blt k 5) (cond (Nat.blt k 2) (cond (Nat.blt k 1) (cond (Nat.beq k 0) (0) (0)) (cond (Nat.beq k 1) (300) (0))) (cond (Nat.blt k 3) (cond (Nat.beq k 2) (0) (0)) (cond (Nat.blt k 4) (cond (Nat.beq k 3) (6) (0)) (cond (Nat.beq k 4) (6) (0))))) (cond (Nat.blt k 8) (cond (Nat.blt k 6) (cond (Nat.beq k 5) (84) (0)) (cond (Nat.blt k 7) (cond (Nat.beq k 6) (0) (0)) (cond (Nat.beq k 7) (107) (0)))) (cond (Nat.blt k 9) (cond (Nat.beq k 8) (0) (0)) (cond (Nat.blt k 10) (cond (Nat.beq k 9) (0) (0)) (cond (Nat.beq k 10) (1284) (0)))))) (cond (Nat.blt k 16) (cond (Nat.blt k 13) (cond (Nat.blt k 12) (cond (Nat.beq k 11) (0) (0)) (cond (Nat.beq k 12) (0) (0))) (cond (Nat.blt k 14) (cond (Nat.beq k 13) (31) (0)) (cond (Nat.blt k 15) (cond (Nat.beq k 14) (0) (0)) (cond (Nat.beq k 15) (300) (0))))) (cond (Nat.blt k 19) (cond (Nat.blt k 17) (cond (Nat.beq k 16) (300) (0)) (cond (Nat.blt k 18) (cond (Nat.beq k 17) (300) (0)) (cond (Nat.beq k 18) (300) (0)))) (cond (Nat.blt k 20) (cond (Nat.beq k 19) (1024) (0)) (cond (Nat.blt k 30) (cond (Nat.beq k 20) (12) (0)) (cond (Nat.beq k 30) (0) (0))))))) (cond (Nat.blt k 42) (cond (Nat.blt k 36) (cond (Nat.blt k 33) (cond (Nat.blt k 32) (cond (Nat.beq k 31) (300) (0)) (cond (Nat.beq k 32) (6) (0))) (cond (Nat.blt k 34) (cond (Nat.beq k 33) (6) (0)) (cond (Nat.blt k 35) (cond (Nat.beq k 34) (7) (0)) (cond (Nat.beq k 35) (7) (0))))) (cond (Nat.blt k 39) (cond (Nat.blt k 37) (cond (Nat.beq k 36) (84) (0)) (cond (Nat.blt k 38) (cond (Nat.beq k 37) (98) (0)) (cond (Nat.beq k 38) (5) (0)))) (cond (Nat.blt k 40) (cond (Nat.beq k 39) (5) (0)) (cond (Nat.blt k 41) (cond (Nat.beq k 40) (107) (0)) (cond (Nat.beq k 41) (1284) (0)))))) (cond (Nat.blt k 47) (cond (Nat.blt k 44) (cond (Nat.blt k 43) (cond (Nat.beq k 42) (321) (0)) (cond (Nat.beq k 43) (8) (0))) (cond (Nat.blt k 45) (cond (Nat.beq k 44) (8) (0)) (cond (Nat.blt k 46) (cond (Nat.beq k 45) (14) (0)) (cond (Nat.beq k 46) (8) (0))))) (cond (Nat.blt k 50) (cond (Nat.blt k 48) (cond (Nat.beq k 47) (8) (0)) (cond (Nat.blt k 49) (cond (Nat.beq k 48) (32100) (0)) (cond (Nat.beq k 49) (20468) (0)))) (cond (Nat.blt k 51) (cond (Nat.beq k 50) (301) (0)) (cond (Nat.blt k 999) (cond (Nat.beq k 51) (301) (0)) (cond (Nat.beq k 999) (0) (0)))))))
def kLenZ (k : Nat) : Int := cond (Nat.blt k 31) (cond (Nat.blt k 11) (cond (Nat.blt k 5) (cond (Nat.blt k 2) (cond (Nat.blt k 1) (cond (Nat.beq k 0) (0) (0)) (cond (Nat.beq k 1) (300) (0))) (cond (Nat.blt k 3) (cond (Nat.beq k 2) (0) (0)) (cond (Nat.blt k 4) (cond (Nat.beq k 3) (6) (0)) (cond (Nat.beq k 4) (6) (0))))) (cond (Nat.blt k 8) (cond (Nat.blt k 6) (cond (Nat.beq k 5) (84) (0)) (cond (Nat.blt k 7) (cond (Nat.beq k 6) (0) (0)) (cond (Nat.beq k 7) (107) (0)))) (cond (Nat.blt k 9) (cond (Nat.beq k 8) (0) (0)) (cond (Nat.blt k 10) (cond (Nat.beq k 9) (0) (0)) (cond (Nat.beq k 10) (1284) (0)))))) (cond (Nat.blt k 16) (cond (Nat.blt k 13) (cond (Nat.blt k 12) (cond (Nat.beq k 11) (0) (0)) (cond (Nat.beq k 12) (0) (0))) (cond (Nat.blt k 14) (cond (Nat.beq k 13) (31) (0)) (cond (Nat.blt k 15) (cond (Nat.beq k 14) (0) (0)) (cond (Nat.beq k 15) (300) (0))))) (cond (Nat.blt k 19) (cond (Nat.blt k 17) (cond (Nat.beq k 16) (300) (0)) (cond (Nat.blt k 18) (cond (Nat.beq k 17) (300) (0)) (cond (Nat.beq k 18) (300) (0)))) (cond (Nat.blt k 20) (cond (Nat.beq k 19) (1024) (0)) (cond (Nat.blt k 30) (cond (Nat.beq k 20) (12) (0)) (cond (Nat.beq k 30) (0) (0))))))) (cond (Nat.blt k 42) (cond (Nat.blt k 36) (cond (Nat.blt k 33) (cond (Nat.blt k 32) (cond (Nat.beq k 31) (300) (0)) (cond (Nat.beq k 32) (6) (0))) (cond (Nat.blt k 34) (cond (Nat.beq k 33) (6) (0)) (cond (Nat.blt k 35) (cond (Nat.beq k 34) (7) (0)) (cond (Nat.beq k 35) (7) (0))))) (cond (Nat.blt k 39) (cond (Nat.blt k 37) (cond (Nat.beq k 36) (84) (0)) (cond (Nat.blt k 38) (cond (Nat.beq k 37) (98) (0)) (cond (Nat.beq k 38) (5) (0)))) (cond (Nat.blt k 40) (cond (Nat.beq k 39) (5) (0)) (cond (Nat.blt k 41) (cond (Nat.beq k 40) (107) (0)) (cond (Nat.beq k 41) (1284) (0)))))) (cond (Nat.blt k 47) (cond (Nat.blt k 44) (cond (Nat.blt k 43) (cond (Nat.beq k 42) (321) (0)) (cond (Nat.beq k 43) (8) (0))) (cond (Nat.blt k 45) (cond (Nat.beq k 44) (8) (0)) (cond (Nat.blt k 46) (cond (Nat.beq k 45) (14) (0)) (cond (Nat.beq k 46) (8) (0))))) (cond (Nat.blt k 50) (cond (Nat.blt k 48) (cond (Nat.beq k 47) (8) (0)) (cond (Nat.blt k 49) (cond (Nat.beq k 48) (32100) (0)) (cond (Nat.beq k 49) (20468) (0)))) (cond (Nat.blt k 51) (cond (Nat.beq k 50) (301) (0)) (cond (Nat.blt k 999) (cond (Nat.beq k 51) (301) (0)) (cond (Nat.beq k 999) (0) (0)))))))
def kCls (k : Nat) : Nat := cond (Nat.blt k 31) (cond (Nat.blt k 11) (cond (Nat.blt k 5) (cond (Nat.blt k 2) (cond (Nat.blt k 1) (cond (Nat.beq k 0) (7) (99)) (cond (Nat.beq k 1) (99) (99))) (cond (Nat.blt k 3) (cond (Nat.beq k 2) (0) (99)) (cond (Nat.blt k 4) (cond (Nat.beq k 3) (99) (99)) (cond (Nat.beq k 4) (99) (99))))) (cond (Nat.blt k 8) (cond (Nat.blt k 6) (cond (Nat.beq k 5) (99) (99)) (cond (Nat.blt k 7) (cond (Nat.beq k 6) (2) (99)) (cond (Nat.beq k 7) (99) (99)))) (cond (Nat.blt k 9) (cond (Nat.beq k 8) (4) (99)) (cond (Nat.blt k 10) (cond (Nat.beq k 9) (3) (99)) (cond (Nat.beq k 10) (99) (99)))))) (cond (Nat.blt k 16) (cond (Nat.blt k 13) (cond (Nat.blt k 12) (cond (Nat.beq k 11) (6) (99)) (cond (Nat.beq k 12) (1) (99))) (cond (Nat.blt k 14) (cond (Nat.beq k 13) (99) (99)) (cond (Nat.blt k 15) (cond (Nat.beq k 14) (5) (99)) (cond (Nat.beq k 15) (99) (99))))) (cond (Nat.blt k 19) (cond (Nat.blt k 17) (cond (Nat.beq k 16) (99) (99)) (cond (Nat.blt k 18) (cond (Nat.beq k 17) (99) (99)) (cond (Nat.beq k 18) (99) (99)))) (cond (Nat.blt k 20) (cond (Nat.beq k 19) (99) (99)) (cond (Nat.blt k 30) (cond (Nat.beq k 20) (99) (99)) (cond (Nat.beq k 30) (8) (99))))))) (cond (Nat.blt k 42) (cond (Nat.blt k 36) (cond (Nat.blt k 33) (cond (Nat.blt k 32) (cond (Nat.beq k 31) (99) (99)) (cond (Nat.beq k 32) (99) (99))) (cond (Nat.blt k 34) (cond (Nat.beq k 33) (99) (99)) (cond (Nat.blt k 35) (cond (Nat.beq k 34) (99) (99)) (cond (Nat.beq k 35) (99) (99))))) (cond (Nat.blt k 39) (cond (Nat.blt k 37) (cond (Nat.beq k 36) (99) (99)) (cond (Nat.blt k 38) (cond (Nat.beq k 37) (99) (99)) (cond (Nat.beq k 38) (99) (99)))) (cond (Nat.blt k 40) (cond (Nat.beq k 39) (99) (99)) (cond (Nat.blt k 41) (cond (Nat.beq k 40) (99) (99)) (cond (Nat.beq k 41) (99) (99)))))) (cond (Nat.blt k 47) (cond (Nat.blt k 44) (cond (Nat.blt k 43) (cond (Nat.beq k 42) (99) (99)) (cond (Nat.beq k 43) (99) (99))) (cond (Nat.blt k 45) (cond (Nat.beq k 44) (99) (99)) (cond (Nat.blt k 46) (cond (Nat.beq k 45) (99) (99)) (cond (Nat.beq k 46) (99) (99))))) (cond (Nat.blt k 50) (cond (Nat.blt k 48) (cond (Nat.beq k 47) (99) (99)) (cond (Nat.blt k 49) (cond (Nat.beq k 48) (99) (99)) (cond (Nat.beq k 49) (99) (99)))) (cond (Nat.blt k 51) (cond (Nat.beq k 50) (99) (99)) (cond (Nat.blt k 999) (cond (Nat.beq k 51) (99) (99)) (cond (Nat.beq k 999) (99) (99)))))))
/-- a field: 0 int, 1 boolean, 2 long, 3 a reference -/
def fTy (ci f : Nat) : Nat := cond (Nat.blt ci 4) (cond (Nat.blt ci 2) (cond (Nat.blt ci 1) (cond (Nat.beq ci 0) (nthD [0, 0, 0, 0, 0, 3, 3, 3] f) (9)) (cond (Nat.beq ci 1) (nthD [3, 3, 3, 3, 2, 0, 0, 0, 0, 0, 0, 0] f) (9))) (cond (Nat.blt ci 3) (cond (Nat.beq ci 2) (nthD [3, 3, 0, 0, 0, 0, 0, 0, 0, 1] f) (9)) (cond (Nat.beq ci 3) (nthD [3, 3, 0, 0] f) (9)))) (cond (Nat.blt ci 6) (cond (Nat.blt ci 5) (cond (Nat.beq ci 4) (nthD [3, 3, 0, 0, 0, 0, 0, 1, 1, 1, 0] f) (9)) (cond (Nat.beq ci 5) (nthD [3, 3, 3, 3, 3, 3, 3, 3, 3, 0, 0, 0, 0] f) (9))) (cond (Nat.blt ci 7) (cond (Nat.beq ci 6) (nthD [3, 3, 3] f) (9)) (cond (Nat.blt ci 8) (cond (Nat.beq ci 7) (nthD [3, 0, 3, 3, 3, 3, 3, 3, 3, 3, 0] f) (9)) (cond (Nat.beq ci 8) (nthD [3, 0, 0, 0, 0, 0, 0, 0, 0, 0, 3, 3, 3, 3, 3, 3, 3, 3, 3, 3, 3, 0, 0, 0, 1, 3, 3, 3, 3, 3, 3, 3, 3, 3, 0, 0, 0, 0, 0, 0, 0] f) (9)))))
/-- the cell that a field of references holds -/
def fRef (k i f : Nat) : Nat × Nat := cond (Nat.blt k 9) (cond (Nat.blt k 6) (cond (Nat.blt k 2) (cond (Nat.beq k 0) (cond (Nat.blt f 5) (cond (Nat.blt f 3) (cond (Nat.blt f 2) (cond (Nat.beq f 0) ((1, 0)) ((0, 0))) (cond (Nat.beq f 2) ((2, 1)) ((0, 0)))) (cond (Nat.blt f 4) (cond (Nat.beq f 3) ((2, 0)) ((0, 0))) (cond (Nat.beq f 4) ((8, 0)) ((0, 0))))) (cond (Nat.blt f 7) (cond (Nat.blt f 6) (cond (Nat.beq f 5) ((6, 0)) ((0, 0))) (cond (Nat.beq f 6) ((9, 0)) ((0, 0)))) (cond (Nat.blt f 8) (cond (Nat.beq f 7) ((11, 0)) ((0, 0))) (cond (Nat.blt f 9) (cond (Nat.beq f 8) ((12, 0)) ((0, 0))) (cond (Nat.beq f 9) ((14, 0)) ((0, 0))))))) ((0, 0))) (cond (Nat.beq k 2) (cond (Nat.blt f 6) (cond (Nat.beq f 5) ((3, i)) ((0, 0))) (cond (Nat.blt f 7) (cond (Nat.beq f 6) ((4, i)) ((0, 0))) (cond (Nat.beq f 7) ((5, i)) ((0, 0))))) ((0, 0)))) (cond (Nat.blt k 8) (cond (Nat.beq k 6) (cond (Nat.blt f 1) (cond (Nat.beq f 0) ((2, 1)) ((0, 0))) (cond (Nat.beq f 1) ((7, i)) ((0, 0)))) ((0, 0))) (cond (Nat.beq k 8) (cond (Nat.blt f 1) (cond (Nat.beq f 0) ((1, 0)) ((0, 0))) (cond (Nat.beq f 1) ((2, 0)) ((0, 0)))) ((0, 0))))) (cond (Nat.blt k 12) (cond (Nat.blt k 11) (cond (Nat.beq k 9) (cond (Nat.blt f 1) (cond (Nat.beq f 0) ((6, 0)) ((0, 0))) (cond (Nat.beq f 1) ((10, 0)) ((0, 0)))) ((0, 0))) (cond (Nat.beq k 11) (cond (Nat.blt f 1) (cond (Nat.beq f 0) ((6, 0)) ((0, 0))) (cond (Nat.blt f 2) (cond (Nat.beq f 1) ((6, 1)) ((0, 0))) (cond (Nat.beq f 2) ((6, 2)) ((0, 0))))) ((0, 0)))) (cond (Nat.blt k 14) (cond (Nat.beq k 12) (cond (Nat.blt f 2) (cond (Nat.blt f 1) (cond (Nat.beq f 0) ((2, 1)) ((0, 0))) (cond (Nat.beq f 1) ((6, 0)) ((0, 0)))) (cond (Nat.blt f 3) (cond (Nat.beq f 2) ((6, 3)) ((0, 0))) (cond (Nat.beq f 3) ((13, 0)) ((0, 0))))) ((0, 0))) (cond (Nat.blt k 30) (cond (Nat.beq k 14) (cond (Nat.blt f 4) (cond (Nat.blt f 2) (cond (Nat.blt f 1) (cond (Nat.beq f 0) ((2, 1)) ((0, 0))) (cond (Nat.beq f 1) ((6, 0)) ((0, 0)))) (cond (Nat.blt f 3) (cond (Nat.beq f 2) ((6, 4)) ((0, 0))) (cond (Nat.beq f 3) ((15, 0)) ((0, 0))))) (cond (Nat.blt f 6) (cond (Nat.blt f 5) (cond (Nat.beq f 4) ((16, 0)) ((0, 0))) (cond (Nat.beq f 5) ((17, 0)) ((0, 0)))) (cond (Nat.blt f 7) (cond (Nat.beq f 6) ((18, 0)) ((0, 0))) (cond (Nat.blt f 8) (cond (Nat.beq f 7) ((19, 0)) ((0, 0))) (cond (Nat.beq f 8) ((20, 0)) ((0, 0))))))) ((0, 0))) (cond (Nat.beq k 30) (cond (Nat.blt f 19) (cond (Nat.blt f 14) (cond (Nat.blt f 11) (cond (Nat.blt f 10) (cond (Nat.beq f 0) ((31, 0)) ((0, 0))) (cond (Nat.beq f 10) ((32, 0)) ((0, 0)))) (cond (Nat.blt f 12) (cond (Nat.beq f 11) ((33, 0)) ((0, 0))) (cond (Nat.blt f 13) (cond (Nat.beq f 12) ((34, 0)) ((0, 0))) (cond (Nat.beq f 13) ((35, 0)) ((0, 0)))))) (cond (Nat.blt f 16) (cond (Nat.blt f 15) (cond (Nat.beq f 14) ((36, 0)) ((0, 0))) (cond (Nat.beq f 15) ((37, 0)) ((0, 0)))) (cond (Nat.blt f 17) (cond (Nat.beq f 16) ((38, 0)) ((0, 0))) (cond (Nat.blt f 18) (cond (Nat.beq f 17) ((39, 0)) ((0, 0))) (cond (Nat.beq f 18) ((40, 0)) ((0, 0))))))) (cond (Nat.blt f 28) (cond (Nat.blt f 25) (cond (Nat.blt f 20) (cond (Nat.beq f 19) ((41, 0)) ((0, 0))) (cond (Nat.beq f 20) ((42, 0)) ((0, 0)))) (cond (Nat.blt f 26) (cond (Nat.beq f 25) ((43, 0)) ((0, 0))) (cond (Nat.blt f 27) (cond (Nat.beq f 26) ((44, 0)) ((0, 0))) (cond (Nat.beq f 27) ((45, 0)) ((0, 0)))))) (cond (Nat.blt f 31) (cond (Nat.blt f 29) (cond (Nat.beq f 28) ((46, 0)) ((0, 0))) (cond (Nat.blt f 30) (cond (Nat.beq f 29) ((47, 0)) ((0, 0))) (cond (Nat.beq f 30) ((48, 0)) ((0, 0))))) (cond (Nat.blt f 32) (cond (Nat.beq f 31) ((49, 0)) ((0, 0))) (cond (Nat.blt f 33) (cond (Nat.beq f 32) ((50, 0)) ((0, 0))) (cond (Nat.beq f 33) ((51, 0)) ((0, 0)))))))) ((0, 0))))))
def refSlots (k i : Nat) : List (Nat × Nat × Nat) := cond (Nat.blt k 9) (cond (Nat.blt k 6) (cond (Nat.blt k 2) (cond (Nat.beq k 0) ([(0, i, 0), (0, i, 2), (0, i, 3), (0, i, 4), (0, i, 5), (0, i, 6), (0, i, 7), (0, i, 8), (0, i, 9)]) ([])) (cond (Nat.beq k 2) ([(2, i, 5), (2, i, 6), (2, i, 7)]) ([]))) (cond (Nat.blt k 8) (cond (Nat.beq k 6) ([(6, i, 0), (6, i, 1)]) ([])) (cond (Nat.beq k 8) ([(8, i, 0), (8, i, 1)]) ([])))) (cond (Nat.blt k 12) (cond (Nat.blt k 11) (cond (Nat.beq k 9) ([(9, i, 0), (9, i, 1)]) ([])) (cond (Nat.beq k 11) ([(11, i, 0), (11, i, 1), (11, i, 2)]) ([]))) (cond (Nat.blt k 14) (cond (Nat.beq k 12) ([(12, i, 0), (12, i, 1), (12, i, 2), (12, i, 3)]) ([])) (cond (Nat.blt k 30) (cond (Nat.beq k 14) ([(14, i, 0), (14, i, 1), (14, i, 2), (14, i, 3), (14, i, 4), (14, i, 5), (14, i, 6), (14, i, 7), (14, i, 8)]) ([])) (cond (Nat.beq k 30) ([(30, i, 0), (30, i, 10), (30, i, 11), (30, i, 12), (30, i, 13), (30, i, 14), (30, i, 15), (30, i, 16), (30, i, 17), (30, i, 18), (30, i, 19), (30, i, 20), (30, i, 25), (30, i, 26), (30, i, 27), (30, i, 28), (30, i, 29), (30, i, 30), (30, i, 31), (30, i, 32), (30, i, 33)]) ([])))))
def ords : List (Nat × Nat) := [(0, 0), (1, 0), (2, 0), (3, 0), (4, 0), (5, 0), (2, 1), (3, 1), (4, 1), (5, 1), (6, 0), (7, 0), (8, 0), (9, 0), (10, 0), (11, 0), (6, 1), (7, 1), (6, 2), (7, 2), (12, 0), (6, 3), (7, 3), (13, 0), (14, 0), (6, 4), (7, 4), (15, 0), (16, 0), (17, 0), (18, 0), (19, 0), (20, 0), (30, 0), (31, 0), (32, 0), (33, 0), (34, 0), (35, 0), (36, 0), (37, 0), (38, 0), (39, 0), (40, 0), (41, 0), (42, 0), (43, 0), (44, 0), (45, 0), (46, 0), (47, 0), (48, 0), (49, 0), (50, 0), (51, 0)]
def sTx : List String := ["key", "under", "image", "revokes", "parts", "limit", "tries", "watch", "key", "image", "limit", "tries", "watch", "under", "revokes", "parts"]
def sLen (i : Nat) : Int := cond (Nat.blt i 8) (cond (Nat.blt i 4) (cond (Nat.blt i 2) (cond (Nat.blt i 1) (cond (Nat.beq i 0) (3) (0)) (cond (Nat.beq i 1) (5) (0))) (cond (Nat.blt i 3) (cond (Nat.beq i 2) (5) (0)) (cond (Nat.beq i 3) (7) (0)))) (cond (Nat.blt i 6) (cond (Nat.blt i 5) (cond (Nat.beq i 4) (5) (0)) (cond (Nat.beq i 5) (5) (0))) (cond (Nat.blt i 7) (cond (Nat.beq i 6) (5) (0)) (cond (Nat.beq i 7) (5) (0))))) (cond (Nat.blt i 12) (cond (Nat.blt i 10) (cond (Nat.blt i 9) (cond (Nat.beq i 8) (3) (0)) (cond (Nat.beq i 9) (5) (0))) (cond (Nat.blt i 11) (cond (Nat.beq i 10) (5) (0)) (cond (Nat.beq i 11) (5) (0)))) (cond (Nat.blt i 14) (cond (Nat.blt i 13) (cond (Nat.beq i 12) (5) (0)) (cond (Nat.beq i 13) (5) (0))) (cond (Nat.blt i 15) (cond (Nat.beq i 14) (7) (0)) (cond (Nat.beq i 15) (5) (0)))))
def sChr (i j : Nat) : Int := cond (Nat.blt i 8) (cond (Nat.blt i 4) (cond (Nat.blt i 2) (cond (Nat.blt i 1) (cond (Nat.beq i 0) (cond (Nat.blt j 1) (cond (Nat.beq j 0) (107) (0)) (cond (Nat.blt j 2) (cond (Nat.beq j 1) (101) (0)) (cond (Nat.beq j 2) (121) (0)))) (0)) (cond (Nat.beq i 1) (cond (Nat.blt j 2) (cond (Nat.blt j 1) (cond (Nat.beq j 0) (117) (0)) (cond (Nat.beq j 1) (110) (0))) (cond (Nat.blt j 3) (cond (Nat.beq j 2) (100) (0)) (cond (Nat.blt j 4) (cond (Nat.beq j 3) (101) (0)) (cond (Nat.beq j 4) (114) (0))))) (0))) (cond (Nat.blt i 3) (cond (Nat.beq i 2) (cond (Nat.blt j 2) (cond (Nat.blt j 1) (cond (Nat.beq j 0) (105) (0)) (cond (Nat.beq j 1) (109) (0))) (cond (Nat.blt j 3) (cond (Nat.beq j 2) (97) (0)) (cond (Nat.blt j 4) (cond (Nat.beq j 3) (103) (0)) (cond (Nat.beq j 4) (101) (0))))) (0)) (cond (Nat.beq i 3) (cond (Nat.blt j 3) (cond (Nat.blt j 1) (cond (Nat.beq j 0) (114) (0)) (cond (Nat.blt j 2) (cond (Nat.beq j 1) (101) (0)) (cond (Nat.beq j 2) (118) (0)))) (cond (Nat.blt j 5) (cond (Nat.blt j 4) (cond (Nat.beq j 3) (111) (0)) (cond (Nat.beq j 4) (107) (0))) (cond (Nat.blt j 6) (cond (Nat.beq j 5) (101) (0)) (cond (Nat.beq j 6) (115) (0))))) (0)))) (cond (Nat.blt i 6) (cond (Nat.blt i 5) (cond (Nat.beq i 4) (cond (Nat.blt j 2) (cond (Nat.blt j 1) (cond (Nat.beq j 0) (112) (0)) (cond (Nat.beq j 1) (97) (0))) (cond (Nat.blt j 3) (cond (Nat.beq j 2) (114) (0)) (cond (Nat.blt j 4) (cond (Nat.beq j 3) (116) (0)) (cond (Nat.beq j 4) (115) (0))))) (0)) (cond (Nat.beq i 5) (cond (Nat.blt j 2) (cond (Nat.blt j 1) (cond (Nat.beq j 0) (108) (0)) (cond (Nat.beq j 1) (105) (0))) (cond (Nat.blt j 3) (cond (Nat.beq j 2) (109) (0)) (cond (Nat.blt j 4) (cond (Nat.beq j 3) (105) (0)) (cond (Nat.beq j 4) (116) (0))))) (0))) (cond (Nat.blt i 7) (cond (Nat.beq i 6) (cond (Nat.blt j 2) (cond (Nat.blt j 1) (cond (Nat.beq j 0) (116) (0)) (cond (Nat.beq j 1) (114) (0))) (cond (Nat.blt j 3) (cond (Nat.beq j 2) (105) (0)) (cond (Nat.blt j 4) (cond (Nat.beq j 3) (101) (0)) (cond (Nat.beq j 4) (115) (0))))) (0)) (cond (Nat.beq i 7) (cond (Nat.blt j 2) (cond (Nat.blt j 1) (cond (Nat.beq j 0) (119) (0)) (cond (Nat.beq j 1) (97) (0))) (cond (Nat.blt j 3) (cond (Nat.beq j 2) (116) (0)) (cond (Nat.blt j 4) (cond (Nat.beq j 3) (99) (0)) (cond (Nat.beq j 4) (104) (0))))) (0))))) (cond (Nat.blt i 12) (cond (Nat.blt i 10) (cond (Nat.blt i 9) (cond (Nat.beq i 8) (cond (Nat.blt j 1) (cond (Nat.beq j 0) (107) (0)) (cond (Nat.blt j 2) (cond (Nat.beq j 1) (101) (0)) (cond (Nat.beq j 2) (121) (0)))) (0)) (cond (Nat.beq i 9) (cond (Nat.blt j 2) (cond (Nat.blt j 1) (cond (Nat.beq j 0) (105) (0)) (cond (Nat.beq j 1) (109) (0))) (cond (Nat.blt j 3) (cond (Nat.beq j 2) (97) (0)) (cond (Nat.blt j 4) (cond (Nat.beq j 3) (103) (0)) (cond (Nat.beq j 4) (101) (0))))) (0))) (cond (Nat.blt i 11) (cond (Nat.beq i 10) (cond (Nat.blt j 2) (cond (Nat.blt j 1) (cond (Nat.beq j 0) (108) (0)) (cond (Nat.beq j 1) (105) (0))) (cond (Nat.blt j 3) (cond (Nat.beq j 2) (109) (0)) (cond (Nat.blt j 4) (cond (Nat.beq j 3) (105) (0)) (cond (Nat.beq j 4) (116) (0))))) (0)) (cond (Nat.beq i 11) (cond (Nat.blt j 2) (cond (Nat.blt j 1) (cond (Nat.beq j 0) (116) (0)) (cond (Nat.beq j 1) (114) (0))) (cond (Nat.blt j 3) (cond (Nat.beq j 2) (105) (0)) (cond (Nat.blt j 4) (cond (Nat.beq j 3) (101) (0)) (cond (Nat.beq j 4) (115) (0))))) (0)))) (cond (Nat.blt i 14) (cond (Nat.blt i 13) (cond (Nat.beq i 12) (cond (Nat.blt j 2) (cond (Nat.blt j 1) (cond (Nat.beq j 0) (119) (0)) (cond (Nat.beq j 1) (97) (0))) (cond (Nat.blt j 3) (cond (Nat.beq j 2) (116) (0)) (cond (Nat.blt j 4) (cond (Nat.beq j 3) (99) (0)) (cond (Nat.beq j 4) (104) (0))))) (0)) (cond (Nat.beq i 13) (cond (Nat.blt j 2) (cond (Nat.blt j 1) (cond (Nat.beq j 0) (117) (0)) (cond (Nat.beq j 1) (110) (0))) (cond (Nat.blt j 3) (cond (Nat.beq j 2) (100) (0)) (cond (Nat.blt j 4) (cond (Nat.beq j 3) (101) (0)) (cond (Nat.beq j 4) (114) (0))))) (0))) (cond (Nat.blt i 15) (cond (Nat.beq i 14) (cond (Nat.blt j 3) (cond (Nat.blt j 1) (cond (Nat.beq j 0) (114) (0)) (cond (Nat.blt j 2) (cond (Nat.beq j 1) (101) (0)) (cond (Nat.beq j 2) (118) (0)))) (cond (Nat.blt j 5) (cond (Nat.blt j 4) (cond (Nat.beq j 3) (111) (0)) (cond (Nat.beq j 4) (107) (0))) (cond (Nat.blt j 6) (cond (Nat.beq j 5) (101) (0)) (cond (Nat.beq j 6) (115) (0))))) (0)) (cond (Nat.beq i 15) (cond (Nat.blt j 2) (cond (Nat.blt j 1) (cond (Nat.beq j 0) (112) (0)) (cond (Nat.beq j 1) (97) (0))) (cond (Nat.blt j 3) (cond (Nat.beq j 2) (114) (0)) (cond (Nat.blt j 4) (cond (Nat.beq j 3) (116) (0)) (cond (Nat.beq j 4) (115) (0))))) (0)))))
def mArg (m : Nat) : Nat := cond (Nat.blt m 132) (cond (Nat.blt m 66) (cond (Nat.blt m 33) (cond (Nat.blt m 16) (cond (Nat.blt m 8) (cond (Nat.blt m 4) (cond (Nat.blt m 2) (cond (Nat.blt m 1) (cond (Nat.beq m 0) (1) (0)) (cond (Nat.beq m 1) (1) (0))) (cond (Nat.blt m 3) (cond (Nat.beq m 2) (1) (0)) (cond (Nat.beq m 3) (2) (0)))) (cond (Nat.blt m 6) (cond (Nat.blt m 5) (cond (Nat.beq m 4) (2) (0)) (cond (Nat.beq m 5) (2) (0))) (cond (Nat.blt m 7) (cond (Nat.beq m 6) (2) (0)) (cond (Nat.beq m 7) (3) (0))))) (cond (Nat.blt m 12) (cond (Nat.blt m 10) (cond (Nat.blt m 9) (cond (Nat.beq m 8) (5) (0)) (cond (Nat.beq m 9) (2) (0))) (cond (Nat.blt m 11) (cond (Nat.beq m 10) (3) (0)) (cond (Nat.beq m 11) (3) (0)))) (cond (Nat.blt m 14) (cond (Nat.blt m 13) (cond (Nat.beq m 12) (4) (0)) (cond (Nat.beq m 13) (2) (0))) (cond (Nat.blt m 15) (cond (Nat.beq m 14) (1) (0)) (cond (Nat.beq m 15) (1) (0)))))) (cond (Nat.blt m 24) (cond (Nat.blt m 20) (cond (Nat.blt m 18) (cond (Nat.blt m 17) (cond (Nat.beq m 16) (2) (0)) (cond (Nat.beq m 17) (2) (0))) (cond (Nat.blt m 19) (cond (Nat.beq m 18) (2) (0)) (cond (Nat.beq m 19) (2) (0)))) (cond (Nat.blt m 22) (cond (Nat.blt m 21) (cond (Nat.beq m 20) (3) (0)) (cond (Nat.beq m 21) (3) (0))) (cond (Nat.blt m 23) (cond (Nat.beq m 22) (2) (0)) (cond (Nat.beq m 23) (3) (0))))) (cond (Nat.blt m 28) (cond (Nat.blt m 26) (cond (Nat.blt m 25) (cond (Nat.beq m 24) (3) (0)) (cond (Nat.beq m 25) (3) (0))) (cond (Nat.blt m 27) (cond (Nat.beq m 26) (3) (0)) (cond (Nat.beq m 27) (1) (0)))) (cond (Nat.blt m 30) (cond (Nat.blt m 29) (cond (Nat.beq m 28) (1) (0)) (cond (Nat.beq m 29) (2) (0))) (cond (Nat.blt m 31) (cond (Nat.beq m 30) (2) (0)) (cond (Nat.blt m 32) (cond (Nat.beq m 31) (1) (0)) (cond (Nat.beq m 32) (1) (0)))))))) (cond (Nat.blt m 49) (cond (Nat.blt m 41) (cond (Nat.blt m 37) (cond (Nat.blt m 35) (cond (Nat.blt m 34) (cond (Nat.beq m 33) (5) (0)) (cond (Nat.beq m 34) (2) (0))) (cond (Nat.blt m 36) (cond (Nat.beq m 35) (3) (0)) (cond (Nat.beq m 36) (1) (0)))) (cond (Nat.blt m 39) (cond (Nat.blt m 38) (cond (Nat.beq m 37) (5) (0)) (cond (Nat.beq m 38) (1) (0))) (cond (Nat.blt m 40) (cond (Nat.beq m 39) (4) (0)) (cond (Nat.beq m 40) (2) (0))))) (cond (Nat.blt m 45) (cond (Nat.blt m 43) (cond (Nat.blt m 42) (cond (Nat.beq m 41) (2) (0)) (cond (Nat.beq m 42) (2) (0))) (cond (Nat.blt m 44) (cond (Nat.beq m 43) (3) (0)) (cond (Nat.beq m 44) (1) (0)))) (cond (Nat.blt m 47) (cond (Nat.blt m 46) (cond (Nat.beq m 45) (1) (0)) (cond (Nat.beq m 46) (4) (0))) (cond (Nat.blt m 48) (cond (Nat.beq m 47) (5) (0)) (cond (Nat.beq m 48) (2) (0)))))) (cond (Nat.blt m 57) (cond (Nat.blt m 53) (cond (Nat.blt m 51) (cond (Nat.blt m 50) (cond (Nat.beq m 49) (1) (0)) (cond (Nat.beq m 50) (1) (0))) (cond (Nat.blt m 52) (cond (Nat.beq m 51) (2) (0)) (cond (Nat.beq m 52) (2) (0)))) (cond (Nat.blt m 55) (cond (Nat.blt m 54) (cond (Nat.beq m 53) (3) (0)) (cond (Nat.beq m 54) (1) (0))) (cond (Nat.blt m 56) (cond (Nat.beq m 55) (2) (0)) (cond (Nat.beq m 56) (2) (0))))) (cond (Nat.blt m 61) (cond (Nat.blt m 59) (cond (Nat.blt m 58) (cond (Nat.beq m 57) (3) (0)) (cond (Nat.beq m 58) (3) (0))) (cond (Nat.blt m 60) (cond (Nat.beq m 59) (2) (0)) (cond (Nat.beq m 60) (3) (0)))) (cond (Nat.blt m 63) (cond (Nat.blt m 62) (cond (Nat.beq m 61) (1) (0)) (cond (Nat.beq m 62) (4) (0))) (cond (Nat.blt m 64) (cond (Nat.beq m 63) (2) (0)) (cond (Nat.blt m 65) (cond (Nat.beq m 64) (2) (0)) (cond (Nat.beq m 65) (1) (0))))))))) (cond (Nat.blt m 99) (cond (Nat.blt m 82) (cond (Nat.blt m 74) (cond (Nat.blt m 70) (cond (Nat.blt m 68) (cond (Nat.blt m 67) (cond (Nat.beq m 66) (1) (0)) (cond (Nat.beq m 67) (1) (0))) (cond (Nat.blt m 69) (cond (Nat.beq m 68) (3) (0)) (cond (Nat.beq m 69) (2) (0)))) (cond (Nat.blt m 72) (cond (Nat.blt m 71) (cond (Nat.beq m 70) (1) (0)) (cond (Nat.beq m 71) (2) (0))) (cond (Nat.blt m 73) (cond (Nat.beq m 72) (2) (0)) (cond (Nat.beq m 73) (1) (0))))) (cond (Nat.blt m 78) (cond (Nat.blt m 76) (cond (Nat.blt m 75) (cond (Nat.beq m 74) (1) (0)) (cond (Nat.beq m 75) (2) (0))) (cond (Nat.blt m 77) (cond (Nat.beq m 76) (2) (0)) (cond (Nat.beq m 77) (2) (0)))) (cond (Nat.blt m 80) (cond (Nat.blt m 79) (cond (Nat.beq m 78) (2) (0)) (cond (Nat.beq m 79) (3) (0))) (cond (Nat.blt m 81) (cond (Nat.beq m 80) (1) (0)) (cond (Nat.beq m 81) (2) (0)))))) (cond (Nat.blt m 90) (cond (Nat.blt m 86) (cond (Nat.blt m 84) (cond (Nat.blt m 83) (cond (Nat.beq m 82) (3) (0)) (cond (Nat.beq m 83) (1) (0))) (cond (Nat.blt m 85) (cond (Nat.beq m 84) (1) (0)) (cond (Nat.beq m 85) (3) (0)))) (cond (Nat.blt m 88) (cond (Nat.blt m 87) (cond (Nat.beq m 86) (2) (0)) (cond (Nat.beq m 87) (2) (0))) (cond (Nat.blt m 89) (cond (Nat.beq m 88) (2) (0)) (cond (Nat.beq m 89) (2) (0))))) (cond (Nat.blt m 94) (cond (Nat.blt m 92) (cond (Nat.blt m 91) (cond (Nat.beq m 90) (1) (0)) (cond (Nat.beq m 91) (3) (0))) (cond (Nat.blt m 93) (cond (Nat.beq m 92) (4) (0)) (cond (Nat.beq m 93) (3) (0)))) (cond (Nat.blt m 96) (cond (Nat.blt m 95) (cond (Nat.beq m 94) (3) (0)) (cond (Nat.beq m 95) (2) (0))) (cond (Nat.blt m 97) (cond (Nat.beq m 96) (4) (0)) (cond (Nat.blt m 98) (cond (Nat.beq m 97) (2) (0)) (cond (Nat.beq m 98) (3) (0)))))))) (cond (Nat.blt m 115) (cond (Nat.blt m 107) (cond (Nat.blt m 103) (cond (Nat.blt m 101) (cond (Nat.blt m 100) (cond (Nat.beq m 99) (5) (0)) (cond (Nat.beq m 100) (3) (0))) (cond (Nat.blt m 102) (cond (Nat.beq m 101) (2) (0)) (cond (Nat.beq m 102) (4) (0)))) (cond (Nat.blt m 105) (cond (Nat.blt m 104) (cond (Nat.beq m 103) (5) (0)) (cond (Nat.beq m 104) (4) (0))) (cond (Nat.blt m 106) (cond (Nat.beq m 105) (1) (0)) (cond (Nat.beq m 106) (2) (0))))) (cond (Nat.blt m 111) (cond (Nat.blt m 109) (cond (Nat.blt m 108) (cond (Nat.beq m 107) (2) (0)) (cond (Nat.beq m 108) (2) (0))) (cond (Nat.blt m 110) (cond (Nat.beq m 109) (1) (0)) (cond (Nat.beq m 110) (6) (0)))) (cond (Nat.blt m 113) (cond (Nat.blt m 112) (cond (Nat.beq m 111) (2) (0)) (cond (Nat.beq m 112) (2) (0))) (cond (Nat.blt m 114) (cond (Nat.beq m 113) (1) (0)) (cond (Nat.beq m 114) (3) (0)))))) (cond (Nat.blt m 123) (cond (Nat.blt m 119) (cond (Nat.blt m 117) (cond (Nat.blt m 116) (cond (Nat.beq m 115) (2) (0)) (cond (Nat.beq m 116) (3) (0))) (cond (Nat.blt m 118) (cond (Nat.beq m 117) (2) (0)) (cond (Nat.beq m 118) (4) (0)))) (cond (Nat.blt m 121) (cond (Nat.blt m 120) (cond (Nat.beq m 119) (3) (0)) (cond (Nat.beq m 120) (3) (0))) (cond (Nat.blt m 122) (cond (Nat.beq m 121) (2) (0)) (cond (Nat.beq m 122) (2) (0))))) (cond (Nat.blt m 127) (cond (Nat.blt m 125) (cond (Nat.blt m 124) (cond (Nat.beq m 123) (5) (0)) (cond (Nat.beq m 124) (2) (0))) (cond (Nat.blt m 126) (cond (Nat.beq m 125) (1) (0)) (cond (Nat.beq m 126) (4) (0)))) (cond (Nat.blt m 129) (cond (Nat.blt m 128) (cond (Nat.beq m 127) (4) (0)) (cond (Nat.beq m 128) (1) (0))) (cond (Nat.blt m 130) (cond (Nat.beq m 129) (3) (0)) (cond (Nat.blt m 131) (cond (Nat.beq m 130) (3) (0)) (cond (Nat.beq m 131) (2) (0)))))))))) (cond (Nat.blt m 198) (cond (Nat.blt m 165) (cond (Nat.blt m 148) (cond (Nat.blt m 140) (cond (Nat.blt m 136) (cond (Nat.blt m 134) (cond (Nat.blt m 133) (cond (Nat.beq m 132) (2) (0)) (cond (Nat.beq m 133) (2) (0))) (cond (Nat.blt m 135) (cond (Nat.beq m 134) (3) (0)) (cond (Nat.beq m 135) (2) (0)))) (cond (Nat.blt m 138) (cond (Nat.blt m 137) (cond (Nat.beq m 136) (2) (0)) (cond (Nat.beq m 137) (5) (0))) (cond (Nat.blt m 139) (cond (Nat.beq m 138) (4) (0)) (cond (Nat.beq m 139) (2) (0))))) (cond (Nat.blt m 144) (cond (Nat.blt m 142) (cond (Nat.blt m 141) (cond (Nat.beq m 140) (2) (0)) (cond (Nat.beq m 141) (2) (0))) (cond (Nat.blt m 143) (cond (Nat.beq m 142) (3) (0)) (cond (Nat.beq m 143) (2) (0)))) (cond (Nat.blt m 146) (cond (Nat.blt m 145) (cond (Nat.beq m 144) (3) (0)) (cond (Nat.beq m 145) (3) (0))) (cond (Nat.blt m 147) (cond (Nat.beq m 146) (2) (0)) (cond (Nat.beq m 147) (2) (0)))))) (cond (Nat.blt m 156) (cond (Nat.blt m 152) (cond (Nat.blt m 150) (cond (Nat.blt m 149) (cond (Nat.beq m 148) (2) (0)) (cond (Nat.beq m 149) (1) (0))) (cond (Nat.blt m 151) (cond (Nat.beq m 150) (1) (0)) (cond (Nat.beq m 151) (1) (0)))) (cond (Nat.blt m 154) (cond (Nat.blt m 153) (cond (Nat.beq m 152) (1) (0)) (cond (Nat.beq m 153) (3) (0))) (cond (Nat.blt m 155) (cond (Nat.beq m 154) (1) (0)) (cond (Nat.beq m 155) (6) (0))))) (cond (Nat.blt m 160) (cond (Nat.blt m 158) (cond (Nat.blt m 157) (cond (Nat.beq m 156) (2) (0)) (cond (Nat.beq m 157) (2) (0))) (cond (Nat.blt m 159) (cond (Nat.beq m 158) (3) (0)) (cond (Nat.beq m 159) (1) (0)))) (cond (Nat.blt m 162) (cond (Nat.blt m 161) (cond (Nat.beq m 160) (1) (0)) (cond (Nat.beq m 161) (1) (0))) (cond (Nat.blt m 163) (cond (Nat.beq m 162) (1) (0)) (cond (Nat.blt m 164) (cond (Nat.beq m 163) (1) (0)) (cond (Nat.beq m 164) (2) (0)))))))) (cond (Nat.blt m 181) (cond (Nat.blt m 173) (cond (Nat.blt m 169) (cond (Nat.blt m 167) (cond (Nat.blt m 166) (cond (Nat.beq m 165) (2) (0)) (cond (Nat.beq m 166) (1) (0))) (cond (Nat.blt m 168) (cond (Nat.beq m 167) (3) (0)) (cond (Nat.beq m 168) (2) (0)))) (cond (Nat.blt m 171) (cond (Nat.blt m 170) (cond (Nat.beq m 169) (2) (0)) (cond (Nat.beq m 170) (3) (0))) (cond (Nat.blt m 172) (cond (Nat.beq m 171) (2) (0)) (cond (Nat.beq m 172) (2) (0))))) (cond (Nat.blt m 177) (cond (Nat.blt m 175) (cond (Nat.blt m 174) (cond (Nat.beq m 173) (2) (0)) (cond (Nat.beq m 174) (3) (0))) (cond (Nat.blt m 176) (cond (Nat.beq m 175) (1) (0)) (cond (Nat.beq m 176) (1) (0)))) (cond (Nat.blt m 179) (cond (Nat.blt m 178) (cond (Nat.beq m 177) (1) (0)) (cond (Nat.beq m 178) (2) (0))) (cond (Nat.blt m 180) (cond (Nat.beq m 179) (3) (0)) (cond (Nat.beq m 180) (3) (0)))))) (cond (Nat.blt m 189) (cond (Nat.blt m 185) (cond (Nat.blt m 183) (cond (Nat.blt m 182) (cond (Nat.beq m 181) (3) (0)) (cond (Nat.beq m 182) (1) (0))) (cond (Nat.blt m 184) (cond (Nat.beq m 183) (1) (0)) (cond (Nat.beq m 184) (1) (0)))) (cond (Nat.blt m 187) (cond (Nat.blt m 186) (cond (Nat.beq m 185) (1) (0)) (cond (Nat.beq m 186) (2) (0))) (cond (Nat.blt m 188) (cond (Nat.beq m 187) (1) (0)) (cond (Nat.beq m 188) (3) (0))))) (cond (Nat.blt m 193) (cond (Nat.blt m 191) (cond (Nat.blt m 190) (cond (Nat.beq m 189) (1) (0)) (cond (Nat.beq m 190) (2) (0))) (cond (Nat.blt m 192) (cond (Nat.beq m 191) (2) (0)) (cond (Nat.beq m 192) (1) (0)))) (cond (Nat.blt m 195) (cond (Nat.blt m 194) (cond (Nat.beq m 193) (1) (0)) (cond (Nat.beq m 194) (1) (0))) (cond (Nat.blt m 196) (cond (Nat.beq m 195) (2) (0)) (cond (Nat.blt m 197) (cond (Nat.beq m 196) (2) (0)) (cond (Nat.beq m 197) (2) (0))))))))) (cond (Nat.blt m 231) (cond (Nat.blt m 214) (cond (Nat.blt m 206) (cond (Nat.blt m 202) (cond (Nat.blt m 200) (cond (Nat.blt m 199) (cond (Nat.beq m 198) (2) (0)) (cond (Nat.beq m 199) (2) (0))) (cond (Nat.blt m 201) (cond (Nat.beq m 200) (2) (0)) (cond (Nat.beq m 201) (1) (0)))) (cond (Nat.blt m 204) (cond (Nat.blt m 203) (cond (Nat.beq m 202) (3) (0)) (cond (Nat.beq m 203) (1) (0))) (cond (Nat.blt m 205) (cond (Nat.beq m 204) (2) (0)) (cond (Nat.beq m 205) (1) (0))))) (cond (Nat.blt m 210) (cond (Nat.blt m 208) (cond (Nat.blt m 207) (cond (Nat.beq m 206) (4) (0)) (cond (Nat.beq m 207) (1) (0))) (cond (Nat.blt m 209) (cond (Nat.beq m 208) (1) (0)) (cond (Nat.beq m 209) (3) (0)))) (cond (Nat.blt m 212) (cond (Nat.blt m 211) (cond (Nat.beq m 210) (2) (0)) (cond (Nat.beq m 211) (2) (0))) (cond (Nat.blt m 213) (cond (Nat.beq m 212) (1) (0)) (cond (Nat.beq m 213) (4) (0)))))) (cond (Nat.blt m 222) (cond (Nat.blt m 218) (cond (Nat.blt m 216) (cond (Nat.blt m 215) (cond (Nat.beq m 214) (5) (0)) (cond (Nat.beq m 215) (5) (0))) (cond (Nat.blt m 217) (cond (Nat.beq m 216) (3) (0)) (cond (Nat.beq m 217) (2) (0)))) (cond (Nat.blt m 220) (cond (Nat.blt m 219) (cond (Nat.beq m 218) (4) (0)) (cond (Nat.beq m 219) (3) (0))) (cond (Nat.blt m 221) (cond (Nat.beq m 220) (3) (0)) (cond (Nat.beq m 221) (2) (0))))) (cond (Nat.blt m 226) (cond (Nat.blt m 224) (cond (Nat.blt m 223) (cond (Nat.beq m 222) (2) (0)) (cond (Nat.beq m 223) (2) (0))) (cond (Nat.blt m 225) (cond (Nat.beq m 224) (2) (0)) (cond (Nat.beq m 225) (1) (0)))) (cond (Nat.blt m 228) (cond (Nat.blt m 227) (cond (Nat.beq m 226) (4) (0)) (cond (Nat.beq m 227) (4) (0))) (cond (Nat.blt m 229) (cond (Nat.beq m 228) (3) (0)) (cond (Nat.blt m 230) (cond (Nat.beq m 229) (3) (0)) (cond (Nat.beq m 230) (2) (0)))))))) (cond (Nat.blt m 247) (cond (Nat.blt m 239) (cond (Nat.blt m 235) (cond (Nat.blt m 233) (cond (Nat.blt m 232) (cond (Nat.beq m 231) (2) (0)) (cond (Nat.beq m 232) (2) (0))) (cond (Nat.blt m 234) (cond (Nat.beq m 233) (3) (0)) (cond (Nat.beq m 234) (2) (0)))) (cond (Nat.blt m 237) (cond (Nat.blt m 236) (cond (Nat.beq m 235) (2) (0)) (cond (Nat.beq m 236) (2) (0))) (cond (Nat.blt m 238) (cond (Nat.beq m 237) (2) (0)) (cond (Nat.beq m 238) (2) (0))))) (cond (Nat.blt m 243) (cond (Nat.blt m 241) (cond (Nat.blt m 240) (cond (Nat.beq m 239) (2) (0)) (cond (Nat.beq m 240) (2) (0))) (cond (Nat.blt m 242) (cond (Nat.beq m 241) (4) (0)) (cond (Nat.beq m 242) (5) (0)))) (cond (Nat.blt m 245) (cond (Nat.blt m 244) (cond (Nat.beq m 243) (4) (0)) (cond (Nat.beq m 244) (2) (0))) (cond (Nat.blt m 246) (cond (Nat.beq m 245) (2) (0)) (cond (Nat.beq m 246) (2) (0)))))) (cond (Nat.blt m 255) (cond (Nat.blt m 251) (cond (Nat.blt m 249) (cond (Nat.blt m 248) (cond (Nat.beq m 247) (2) (0)) (cond (Nat.beq m 248) (3) (0))) (cond (Nat.blt m 250) (cond (Nat.beq m 249) (2) (0)) (cond (Nat.beq m 250) (2) (0)))) (cond (Nat.blt m 253) (cond (Nat.blt m 252) (cond (Nat.beq m 251) (2) (0)) (cond (Nat.beq m 252) (2) (0))) (cond (Nat.blt m 254) (cond (Nat.beq m 253) (3) (0)) (cond (Nat.beq m 254) (2) (0))))) (cond (Nat.blt m 259) (cond (Nat.blt m 257) (cond (Nat.blt m 256) (cond (Nat.beq m 255) (2) (0)) (cond (Nat.beq m 256) (1) (0))) (cond (Nat.blt m 258) (cond (Nat.beq m 257) (5) (0)) (cond (Nat.beq m 258) (1) (0)))) (cond (Nat.blt m 261) (cond (Nat.blt m 260) (cond (Nat.beq m 259) (3) (0)) (cond (Nat.beq m 260) (3) (0))) (cond (Nat.blt m 262) (cond (Nat.beq m 261) (2) (0)) (cond (Nat.blt m 263) (cond (Nat.beq m 262) (2) (0)) (cond (Nat.beq m 263) (2) (0))))))))))
def mMaxL (m : Nat) : Nat := cond (Nat.blt m 132) (cond (Nat.blt m 66) (cond (Nat.blt m 33) (cond (Nat.blt m 16) (cond (Nat.blt m 8) (cond (Nat.blt m 4) (cond (Nat.blt m 2) (cond (Nat.blt m 1) (cond (Nat.beq m 0) (4) (0)) (cond (Nat.beq m 1) (1) (0))) (cond (Nat.blt m 3) (cond (Nat.beq m 2) (1) (0)) (cond (Nat.beq m 3) (2) (0)))) (cond (Nat.blt m 6) (cond (Nat.blt m 5) (cond (Nat.beq m 4) (2) (0)) (cond (Nat.beq m 5) (2) (0))) (cond (Nat.blt m 7) (cond (Nat.beq m 6) (2) (0)) (cond (Nat.beq m 7) (3) (0))))) (cond (Nat.blt m 12) (cond (Nat.blt m 10) (cond (Nat.blt m 9) (cond (Nat.beq m 8) (8) (0)) (cond (Nat.beq m 9) (2) (0))) (cond (Nat.blt m 11) (cond (Nat.beq m 10) (5) (0)) (cond (Nat.beq m 11) (3) (0)))) (cond (Nat.blt m 14) (cond (Nat.blt m 13) (cond (Nat.beq m 12) (5) (0)) (cond (Nat.beq m 13) (4) (0))) (cond (Nat.blt m 15) (cond (Nat.beq m 14) (1) (0)) (cond (Nat.beq m 15) (3) (0)))))) (cond (Nat.blt m 24) (cond (Nat.blt m 20) (cond (Nat.blt m 18) (cond (Nat.blt m 17) (cond (Nat.beq m 16) (3) (0)) (cond (Nat.beq m 17) (2) (0))) (cond (Nat.blt m 19) (cond (Nat.beq m 18) (3) (0)) (cond (Nat.beq m 19) (2) (0)))) (cond (Nat.blt m 22) (cond (Nat.blt m 21) (cond (Nat.beq m 20) (3) (0)) (cond (Nat.beq m 21) (3) (0))) (cond (Nat.blt m 23) (cond (Nat.beq m 22) (2) (0)) (cond (Nat.beq m 23) (3) (0))))) (cond (Nat.blt m 28) (cond (Nat.blt m 26) (cond (Nat.blt m 25) (cond (Nat.beq m 24) (3) (0)) (cond (Nat.beq m 25) (3) (0))) (cond (Nat.blt m 27) (cond (Nat.beq m 26) (4) (0)) (cond (Nat.beq m 27) (1) (0)))) (cond (Nat.blt m 30) (cond (Nat.blt m 29) (cond (Nat.beq m 28) (1) (0)) (cond (Nat.beq m 29) (5) (0))) (cond (Nat.blt m 31) (cond (Nat.beq m 30) (2) (0)) (cond (Nat.blt m 32) (cond (Nat.beq m 31) (3) (0)) (cond (Nat.beq m 32) (2) (0)))))))) (cond (Nat.blt m 49) (cond (Nat.blt m 41) (cond (Nat.blt m 37) (cond (Nat.blt m 35) (cond (Nat.blt m 34) (cond (Nat.beq m 33) (5) (0)) (cond (Nat.beq m 34) (2) (0))) (cond (Nat.blt m 36) (cond (Nat.beq m 35) (3) (0)) (cond (Nat.beq m 36) (1) (0)))) (cond (Nat.blt m 39) (cond (Nat.blt m 38) (cond (Nat.beq m 37) (6) (0)) (cond (Nat.beq m 38) (5) (0))) (cond (Nat.blt m 40) (cond (Nat.beq m 39) (5) (0)) (cond (Nat.beq m 40) (4) (0))))) (cond (Nat.blt m 45) (cond (Nat.blt m 43) (cond (Nat.blt m 42) (cond (Nat.beq m 41) (2) (0)) (cond (Nat.beq m 42) (6) (0))) (cond (Nat.blt m 44) (cond (Nat.beq m 43) (6) (0)) (cond (Nat.beq m 44) (3) (0)))) (cond (Nat.blt m 47) (cond (Nat.blt m 46) (cond (Nat.beq m 45) (4) (0)) (cond (Nat.beq m 46) (5) (0))) (cond (Nat.blt m 48) (cond (Nat.beq m 47) (6) (0)) (cond (Nat.beq m 48) (4) (0)))))) (cond (Nat.blt m 57) (cond (Nat.blt m 53) (cond (Nat.blt m 51) (cond (Nat.blt m 50) (cond (Nat.beq m 49) (3) (0)) (cond (Nat.beq m 50) (1) (0))) (cond (Nat.blt m 52) (cond (Nat.beq m 51) (3) (0)) (cond (Nat.beq m 52) (2) (0)))) (cond (Nat.blt m 55) (cond (Nat.blt m 54) (cond (Nat.beq m 53) (5) (0)) (cond (Nat.beq m 54) (2) (0))) (cond (Nat.blt m 56) (cond (Nat.beq m 55) (4) (0)) (cond (Nat.beq m 56) (5) (0))))) (cond (Nat.blt m 61) (cond (Nat.blt m 59) (cond (Nat.blt m 58) (cond (Nat.beq m 57) (3) (0)) (cond (Nat.beq m 58) (3) (0))) (cond (Nat.blt m 60) (cond (Nat.beq m 59) (3) (0)) (cond (Nat.beq m 60) (4) (0)))) (cond (Nat.blt m 63) (cond (Nat.blt m 62) (cond (Nat.beq m 61) (6) (0)) (cond (Nat.beq m 62) (6) (0))) (cond (Nat.blt m 64) (cond (Nat.beq m 63) (5) (0)) (cond (Nat.blt m 65) (cond (Nat.beq m 64) (2) (0)) (cond (Nat.beq m 65) (1) (0))))))))) (cond (Nat.blt m 99) (cond (Nat.blt m 82) (cond (Nat.blt m 74) (cond (Nat.blt m 70) (cond (Nat.blt m 68) (cond (Nat.blt m 67) (cond (Nat.beq m 66) (1) (0)) (cond (Nat.beq m 67) (1) (0))) (cond (Nat.blt m 69) (cond (Nat.beq m 68) (3) (0)) (cond (Nat.beq m 69) (3) (0)))) (cond (Nat.blt m 72) (cond (Nat.blt m 71) (cond (Nat.beq m 70) (2) (0)) (cond (Nat.beq m 71) (4) (0))) (cond (Nat.blt m 73) (cond (Nat.beq m 72) (6) (0)) (cond (Nat.beq m 73) (3) (0))))) (cond (Nat.blt m 78) (cond (Nat.blt m 76) (cond (Nat.blt m 75) (cond (Nat.beq m 74) (2) (0)) (cond (Nat.beq m 75) (2) (0))) (cond (Nat.blt m 77) (cond (Nat.beq m 76) (2) (0)) (cond (Nat.beq m 77) (2) (0)))) (cond (Nat.blt m 80) (cond (Nat.blt m 79) (cond (Nat.beq m 78) (3) (0)) (cond (Nat.beq m 79) (3) (0))) (cond (Nat.blt m 81) (cond (Nat.beq m 80) (1) (0)) (cond (Nat.beq m 81) (2) (0)))))) (cond (Nat.blt m 90) (cond (Nat.blt m 86) (cond (Nat.blt m 84) (cond (Nat.blt m 83) (cond (Nat.beq m 82) (3) (0)) (cond (Nat.beq m 83) (1) (0))) (cond (Nat.blt m 85) (cond (Nat.beq m 84) (1) (0)) (cond (Nat.beq m 85) (3) (0)))) (cond (Nat.blt m 88) (cond (Nat.blt m 87) (cond (Nat.beq m 86) (2) (0)) (cond (Nat.beq m 87) (5) (0))) (cond (Nat.blt m 89) (cond (Nat.beq m 88) (3) (0)) (cond (Nat.beq m 89) (6) (0))))) (cond (Nat.blt m 94) (cond (Nat.blt m 92) (cond (Nat.blt m 91) (cond (Nat.beq m 90) (3) (0)) (cond (Nat.beq m 91) (4) (0))) (cond (Nat.blt m 93) (cond (Nat.beq m 92) (11) (0)) (cond (Nat.beq m 93) (4) (0)))) (cond (Nat.blt m 96) (cond (Nat.blt m 95) (cond (Nat.beq m 94) (6) (0)) (cond (Nat.beq m 95) (5) (0))) (cond (Nat.blt m 97) (cond (Nat.beq m 96) (8) (0)) (cond (Nat.blt m 98) (cond (Nat.beq m 97) (2) (0)) (cond (Nat.beq m 98) (3) (0)))))))) (cond (Nat.blt m 115) (cond (Nat.blt m 107) (cond (Nat.blt m 103) (cond (Nat.blt m 101) (cond (Nat.blt m 100) (cond (Nat.beq m 99) (5) (0)) (cond (Nat.beq m 100) (3) (0))) (cond (Nat.blt m 102) (cond (Nat.beq m 101) (2) (0)) (cond (Nat.beq m 102) (4) (0)))) (cond (Nat.blt m 105) (cond (Nat.blt m 104) (cond (Nat.beq m 103) (10) (0)) (cond (Nat.beq m 104) (7) (0))) (cond (Nat.blt m 106) (cond (Nat.beq m 105) (4) (0)) (cond (Nat.beq m 106) (4) (0))))) (cond (Nat.blt m 111) (cond (Nat.blt m 109) (cond (Nat.blt m 108) (cond (Nat.beq m 107) (5) (0)) (cond (Nat.beq m 108) (8) (0))) (cond (Nat.blt m 110) (cond (Nat.beq m 109) (5) (0)) (cond (Nat.beq m 110) (6) (0)))) (cond (Nat.blt m 113) (cond (Nat.blt m 112) (cond (Nat.beq m 111) (3) (0)) (cond (Nat.beq m 112) (2) (0))) (cond (Nat.blt m 114) (cond (Nat.beq m 113) (3) (0)) (cond (Nat.beq m 114) (3) (0)))))) (cond (Nat.blt m 123) (cond (Nat.blt m 119) (cond (Nat.blt m 117) (cond (Nat.blt m 116) (cond (Nat.beq m 115) (2) (0)) (cond (Nat.beq m 116) (3) (0))) (cond (Nat.blt m 118) (cond (Nat.beq m 117) (2) (0)) (cond (Nat.beq m 118) (4) (0)))) (cond (Nat.blt m 121) (cond (Nat.blt m 120) (cond (Nat.beq m 119) (3) (0)) (cond (Nat.beq m 120) (3) (0))) (cond (Nat.blt m 122) (cond (Nat.beq m 121) (2) (0)) (cond (Nat.beq m 122) (2) (0))))) (cond (Nat.blt m 127) (cond (Nat.blt m 125) (cond (Nat.blt m 124) (cond (Nat.beq m 123) (5) (0)) (cond (Nat.beq m 124) (2) (0))) (cond (Nat.blt m 126) (cond (Nat.beq m 125) (1) (0)) (cond (Nat.beq m 126) (4) (0)))) (cond (Nat.blt m 129) (cond (Nat.blt m 128) (cond (Nat.beq m 127) (4) (0)) (cond (Nat.beq m 128) (1) (0))) (cond (Nat.blt m 130) (cond (Nat.beq m 129) (3) (0)) (cond (Nat.blt m 131) (cond (Nat.beq m 130) (3) (0)) (cond (Nat.beq m 131) (2) (0)))))))))) (cond (Nat.blt m 198) (cond (Nat.blt m 165) (cond (Nat.blt m 148) (cond (Nat.blt m 140) (cond (Nat.blt m 136) (cond (Nat.blt m 134) (cond (Nat.blt m 133) (cond (Nat.beq m 132) (2) (0)) (cond (Nat.beq m 133) (2) (0))) (cond (Nat.blt m 135) (cond (Nat.beq m 134) (4) (0)) (cond (Nat.beq m 135) (2) (0)))) (cond (Nat.blt m 138) (cond (Nat.blt m 137) (cond (Nat.beq m 136) (2) (0)) (cond (Nat.beq m 137) (5) (0))) (cond (Nat.blt m 139) (cond (Nat.beq m 138) (4) (0)) (cond (Nat.beq m 139) (2) (0))))) (cond (Nat.blt m 144) (cond (Nat.blt m 142) (cond (Nat.blt m 141) (cond (Nat.beq m 140) (2) (0)) (cond (Nat.beq m 141) (2) (0))) (cond (Nat.blt m 143) (cond (Nat.beq m 142) (4) (0)) (cond (Nat.beq m 143) (3) (0)))) (cond (Nat.blt m 146) (cond (Nat.blt m 145) (cond (Nat.beq m 144) (3) (0)) (cond (Nat.beq m 145) (4) (0))) (cond (Nat.blt m 147) (cond (Nat.beq m 146) (6) (0)) (cond (Nat.beq m 147) (2) (0)))))) (cond (Nat.blt m 156) (cond (Nat.blt m 152) (cond (Nat.blt m 150) (cond (Nat.blt m 149) (cond (Nat.beq m 148) (2) (0)) (cond (Nat.beq m 149) (1) (0))) (cond (Nat.blt m 151) (cond (Nat.beq m 150) (1) (0)) (cond (Nat.beq m 151) (1) (0)))) (cond (Nat.blt m 154) (cond (Nat.blt m 153) (cond (Nat.beq m 152) (2) (0)) (cond (Nat.beq m 153) (6) (0))) (cond (Nat.blt m 155) (cond (Nat.beq m 154) (1) (0)) (cond (Nat.beq m 155) (6) (0))))) (cond (Nat.blt m 160) (cond (Nat.blt m 158) (cond (Nat.blt m 157) (cond (Nat.beq m 156) (3) (0)) (cond (Nat.beq m 157) (2) (0))) (cond (Nat.blt m 159) (cond (Nat.beq m 158) (3) (0)) (cond (Nat.beq m 159) (1) (0)))) (cond (Nat.blt m 162) (cond (Nat.blt m 161) (cond (Nat.beq m 160) (1) (0)) (cond (Nat.beq m 161) (1) (0))) (cond (Nat.blt m 163) (cond (Nat.beq m 162) (1) (0)) (cond (Nat.blt m 164) (cond (Nat.beq m 163) (2) (0)) (cond (Nat.beq m 164) (4) (0)))))))) (cond (Nat.blt m 181) (cond (Nat.blt m 173) (cond (Nat.blt m 169) (cond (Nat.blt m 167) (cond (Nat.blt m 166) (cond (Nat.beq m 165) (3) (0)) (cond (Nat.beq m 166) (1) (0))) (cond (Nat.blt m 168) (cond (Nat.beq m 167) (4) (0)) (cond (Nat.beq m 168) (2) (0)))) (cond (Nat.blt m 171) (cond (Nat.blt m 170) (cond (Nat.beq m 169) (4) (0)) (cond (Nat.beq m 170) (6) (0))) (cond (Nat.blt m 172) (cond (Nat.beq m 171) (5) (0)) (cond (Nat.beq m 172) (6) (0))))) (cond (Nat.blt m 177) (cond (Nat.blt m 175) (cond (Nat.blt m 174) (cond (Nat.beq m 173) (4) (0)) (cond (Nat.beq m 174) (3) (0))) (cond (Nat.blt m 176) (cond (Nat.beq m 175) (2) (0)) (cond (Nat.beq m 176) (3) (0)))) (cond (Nat.blt m 179) (cond (Nat.blt m 178) (cond (Nat.beq m 177) (2) (0)) (cond (Nat.beq m 178) (2) (0))) (cond (Nat.blt m 180) (cond (Nat.beq m 179) (3) (0)) (cond (Nat.beq m 180) (4) (0)))))) (cond (Nat.blt m 189) (cond (Nat.blt m 185) (cond (Nat.blt m 183) (cond (Nat.blt m 182) (cond (Nat.beq m 181) (4) (0)) (cond (Nat.beq m 182) (2) (0))) (cond (Nat.blt m 184) (cond (Nat.beq m 183) (1) (0)) (cond (Nat.beq m 184) (1) (0)))) (cond (Nat.blt m 187) (cond (Nat.blt m 186) (cond (Nat.beq m 185) (1) (0)) (cond (Nat.beq m 186) (2) (0))) (cond (Nat.blt m 188) (cond (Nat.beq m 187) (1) (0)) (cond (Nat.beq m 188) (3) (0))))) (cond (Nat.blt m 193) (cond (Nat.blt m 191) (cond (Nat.blt m 190) (cond (Nat.beq m 189) (1) (0)) (cond (Nat.beq m 190) (4) (0))) (cond (Nat.blt m 192) (cond (Nat.beq m 191) (3) (0)) (cond (Nat.beq m 192) (3) (0)))) (cond (Nat.blt m 195) (cond (Nat.blt m 194) (cond (Nat.beq m 193) (5) (0)) (cond (Nat.beq m 194) (5) (0))) (cond (Nat.blt m 196) (cond (Nat.beq m 195) (2) (0)) (cond (Nat.blt m 197) (cond (Nat.beq m 196) (2) (0)) (cond (Nat.beq m 197) (3) (0))))))))) (cond (Nat.blt m 231) (cond (Nat.blt m 214) (cond (Nat.blt m 206) (cond (Nat.blt m 202) (cond (Nat.blt m 200) (cond (Nat.blt m 199) (cond (Nat.beq m 198) (6) (0)) (cond (Nat.beq m 199) (3) (0))) (cond (Nat.blt m 201) (cond (Nat.beq m 200) (2) (0)) (cond (Nat.beq m 201) (3) (0)))) (cond (Nat.blt m 204) (cond (Nat.blt m 203) (cond (Nat.beq m 202) (4) (0)) (cond (Nat.beq m 203) (4) (0))) (cond (Nat.blt m 205) (cond (Nat.beq m 204) (4) (0)) (cond (Nat.beq m 205) (3) (0))))) (cond (Nat.blt m 210) (cond (Nat.blt m 208) (cond (Nat.blt m 207) (cond (Nat.beq m 206) (6) (0)) (cond (Nat.beq m 207) (2) (0))) (cond (Nat.blt m 209) (cond (Nat.beq m 208) (3) (0)) (cond (Nat.beq m 209) (3) (0)))) (cond (Nat.blt m 212) (cond (Nat.blt m 211) (cond (Nat.beq m 210) (3) (0)) (cond (Nat.beq m 211) (3) (0))) (cond (Nat.blt m 213) (cond (Nat.beq m 212) (6) (0)) (cond (Nat.beq m 213) (4) (0)))))) (cond (Nat.blt m 222) (cond (Nat.blt m 218) (cond (Nat.blt m 216) (cond (Nat.blt m 215) (cond (Nat.beq m 214) (6) (0)) (cond (Nat.beq m 215) (5) (0))) (cond (Nat.blt m 217) (cond (Nat.beq m 216) (3) (0)) (cond (Nat.beq m 217) (2) (0)))) (cond (Nat.blt m 220) (cond (Nat.blt m 219) (cond (Nat.beq m 218) (4) (0)) (cond (Nat.beq m 219) (3) (0))) (cond (Nat.blt m 221) (cond (Nat.beq m 220) (3) (0)) (cond (Nat.beq m 221) (2) (0))))) (cond (Nat.blt m 226) (cond (Nat.blt m 224) (cond (Nat.blt m 223) (cond (Nat.beq m 222) (2) (0)) (cond (Nat.beq m 223) (3) (0))) (cond (Nat.blt m 225) (cond (Nat.beq m 224) (4) (0)) (cond (Nat.beq m 225) (1) (0)))) (cond (Nat.blt m 228) (cond (Nat.blt m 227) (cond (Nat.beq m 226) (4) (0)) (cond (Nat.beq m 227) (4) (0))) (cond (Nat.blt m 229) (cond (Nat.beq m 228) (3) (0)) (cond (Nat.blt m 230) (cond (Nat.beq m 229) (3) (0)) (cond (Nat.beq m 230) (2) (0)))))))) (cond (Nat.blt m 247) (cond (Nat.blt m 239) (cond (Nat.blt m 235) (cond (Nat.blt m 233) (cond (Nat.blt m 232) (cond (Nat.beq m 231) (2) (0)) (cond (Nat.beq m 232) (2) (0))) (cond (Nat.blt m 234) (cond (Nat.beq m 233) (3) (0)) (cond (Nat.beq m 234) (2) (0)))) (cond (Nat.blt m 237) (cond (Nat.blt m 236) (cond (Nat.beq m 235) (2) (0)) (cond (Nat.beq m 236) (2) (0))) (cond (Nat.blt m 238) (cond (Nat.beq m 237) (3) (0)) (cond (Nat.beq m 238) (2) (0))))) (cond (Nat.blt m 243) (cond (Nat.blt m 241) (cond (Nat.blt m 240) (cond (Nat.beq m 239) (3) (0)) (cond (Nat.beq m 240) (4) (0))) (cond (Nat.blt m 242) (cond (Nat.beq m 241) (5) (0)) (cond (Nat.beq m 242) (8) (0)))) (cond (Nat.blt m 245) (cond (Nat.blt m 244) (cond (Nat.beq m 243) (9) (0)) (cond (Nat.beq m 244) (4) (0))) (cond (Nat.blt m 246) (cond (Nat.beq m 245) (5) (0)) (cond (Nat.beq m 246) (6) (0)))))) (cond (Nat.blt m 255) (cond (Nat.blt m 251) (cond (Nat.blt m 249) (cond (Nat.blt m 248) (cond (Nat.beq m 247) (4) (0)) (cond (Nat.beq m 248) (4) (0))) (cond (Nat.blt m 250) (cond (Nat.beq m 249) (2) (0)) (cond (Nat.beq m 250) (5) (0)))) (cond (Nat.blt m 253) (cond (Nat.blt m 252) (cond (Nat.beq m 251) (7) (0)) (cond (Nat.beq m 252) (4) (0))) (cond (Nat.blt m 254) (cond (Nat.beq m 253) (6) (0)) (cond (Nat.beq m 254) (3) (0))))) (cond (Nat.blt m 259) (cond (Nat.blt m 257) (cond (Nat.blt m 256) (cond (Nat.beq m 255) (2) (0)) (cond (Nat.beq m 256) (2) (0))) (cond (Nat.blt m 258) (cond (Nat.beq m 257) (6) (0)) (cond (Nat.beq m 258) (3) (0)))) (cond (Nat.blt m 261) (cond (Nat.blt m 260) (cond (Nat.beq m 259) (5) (0)) (cond (Nat.beq m 260) (3) (0))) (cond (Nat.blt m 262) (cond (Nat.beq m 261) (5) (0)) (cond (Nat.blt m 263) (cond (Nat.beq m 262) (3) (0)) (cond (Nat.beq m 263) (4) (0))))))))))
/-- 0 void, 1 int, 2 boolean, 3 long, 4 a reference -/
def mRet (m : Nat) : Nat := cond (Nat.blt m 132) (cond (Nat.blt m 66) (cond (Nat.blt m 33) (cond (Nat.blt m 16) (cond (Nat.blt m 8) (cond (Nat.blt m 4) (cond (Nat.blt m 2) (cond (Nat.blt m 1) (cond (Nat.beq m 0) (2) (9)) (cond (Nat.beq m 1) (0) (9))) (cond (Nat.blt m 3) (cond (Nat.beq m 2) (0) (9)) (cond (Nat.beq m 3) (0) (9)))) (cond (Nat.blt m 6) (cond (Nat.blt m 5) (cond (Nat.beq m 4) (2) (9)) (cond (Nat.beq m 5) (2) (9))) (cond (Nat.blt m 7) (cond (Nat.beq m 6) (2) (9)) (cond (Nat.beq m 7) (0) (9))))) (cond (Nat.blt m 12) (cond (Nat.blt m 10) (cond (Nat.blt m 9) (cond (Nat.beq m 8) (0) (9)) (cond (Nat.beq m 9) (1) (9))) (cond (Nat.blt m 11) (cond (Nat.beq m 10) (1) (9)) (cond (Nat.beq m 11) (0) (9)))) (cond (Nat.blt m 14) (cond (Nat.blt m 13) (cond (Nat.beq m 12) (1) (9)) (cond (Nat.beq m 13) (1) (9))) (cond (Nat.blt m 15) (cond (Nat.beq m 14) (0) (9)) (cond (Nat.beq m 15) (0) (9)))))) (cond (Nat.blt m 24) (cond (Nat.blt m 20) (cond (Nat.blt m 18) (cond (Nat.blt m 17) (cond (Nat.beq m 16) (0) (9)) (cond (Nat.beq m 17) (1) (9))) (cond (Nat.blt m 19) (cond (Nat.beq m 18) (0) (9)) (cond (Nat.beq m 19) (1) (9)))) (cond (Nat.blt m 22) (cond (Nat.blt m 21) (cond (Nat.beq m 20) (0) (9)) (cond (Nat.beq m 21) (1) (9))) (cond (Nat.blt m 23) (cond (Nat.beq m 22) (0) (9)) (cond (Nat.beq m 23) (0) (9))))) (cond (Nat.blt m 28) (cond (Nat.blt m 26) (cond (Nat.blt m 25) (cond (Nat.beq m 24) (0) (9)) (cond (Nat.beq m 25) (0) (9))) (cond (Nat.blt m 27) (cond (Nat.beq m 26) (2) (9)) (cond (Nat.beq m 27) (2) (9)))) (cond (Nat.blt m 30) (cond (Nat.blt m 29) (cond (Nat.beq m 28) (0) (9)) (cond (Nat.beq m 29) (2) (9))) (cond (Nat.blt m 31) (cond (Nat.beq m 30) (1) (9)) (cond (Nat.blt m 32) (cond (Nat.beq m 31) (1) (9)) (cond (Nat.beq m 32) (0) (9)))))))) (cond (Nat.blt m 49) (cond (Nat.blt m 41) (cond (Nat.blt m 37) (cond (Nat.blt m 35) (cond (Nat.blt m 34) (cond (Nat.beq m 33) (0) (9)) (cond (Nat.beq m 34) (1) (9))) (cond (Nat.blt m 36) (cond (Nat.beq m 35) (0) (9)) (cond (Nat.beq m 36) (1) (9)))) (cond (Nat.blt m 39) (cond (Nat.blt m 38) (cond (Nat.beq m 37) (0) (9)) (cond (Nat.beq m 38) (0) (9))) (cond (Nat.blt m 40) (cond (Nat.beq m 39) (0) (9)) (cond (Nat.beq m 40) (2) (9))))) (cond (Nat.blt m 45) (cond (Nat.blt m 43) (cond (Nat.blt m 42) (cond (Nat.beq m 41) (1) (9)) (cond (Nat.beq m 42) (1) (9))) (cond (Nat.blt m 44) (cond (Nat.beq m 43) (2) (9)) (cond (Nat.beq m 44) (1) (9)))) (cond (Nat.blt m 47) (cond (Nat.blt m 46) (cond (Nat.beq m 45) (2) (9)) (cond (Nat.beq m 46) (2) (9))) (cond (Nat.blt m 48) (cond (Nat.beq m 47) (1) (9)) (cond (Nat.beq m 48) (1) (9)))))) (cond (Nat.blt m 57) (cond (Nat.blt m 53) (cond (Nat.blt m 51) (cond (Nat.blt m 50) (cond (Nat.beq m 49) (1) (9)) (cond (Nat.beq m 50) (1) (9))) (cond (Nat.blt m 52) (cond (Nat.beq m 51) (0) (9)) (cond (Nat.beq m 52) (1) (9)))) (cond (Nat.blt m 55) (cond (Nat.blt m 54) (cond (Nat.beq m 53) (0) (9)) (cond (Nat.beq m 54) (1) (9))) (cond (Nat.blt m 56) (cond (Nat.beq m 55) (0) (9)) (cond (Nat.beq m 56) (0) (9))))) (cond (Nat.blt m 61) (cond (Nat.blt m 59) (cond (Nat.blt m 58) (cond (Nat.beq m 57) (0) (9)) (cond (Nat.beq m 58) (1) (9))) (cond (Nat.blt m 60) (cond (Nat.beq m 59) (0) (9)) (cond (Nat.beq m 60) (1) (9)))) (cond (Nat.blt m 63) (cond (Nat.blt m 62) (cond (Nat.beq m 61) (1) (9)) (cond (Nat.beq m 62) (0) (9))) (cond (Nat.blt m 64) (cond (Nat.beq m 63) (1) (9)) (cond (Nat.blt m 65) (cond (Nat.beq m 64) (0) (9)) (cond (Nat.beq m 65) (0) (9))))))))) (cond (Nat.blt m 99) (cond (Nat.blt m 82) (cond (Nat.blt m 74) (cond (Nat.blt m 70) (cond (Nat.blt m 68) (cond (Nat.blt m 67) (cond (Nat.beq m 66) (1) (9)) (cond (Nat.beq m 67) (0) (9))) (cond (Nat.blt m 69) (cond (Nat.beq m 68) (0) (9)) (cond (Nat.beq m 69) (1) (9)))) (cond (Nat.blt m 72) (cond (Nat.blt m 71) (cond (Nat.beq m 70) (2) (9)) (cond (Nat.beq m 71) (2) (9))) (cond (Nat.blt m 73) (cond (Nat.beq m 72) (2) (9)) (cond (Nat.beq m 73) (1) (9))))) (cond (Nat.blt m 78) (cond (Nat.blt m 76) (cond (Nat.blt m 75) (cond (Nat.beq m 74) (1) (9)) (cond (Nat.beq m 75) (2) (9))) (cond (Nat.blt m 77) (cond (Nat.beq m 76) (2) (9)) (cond (Nat.beq m 77) (2) (9)))) (cond (Nat.blt m 80) (cond (Nat.blt m 79) (cond (Nat.beq m 78) (2) (9)) (cond (Nat.beq m 79) (2) (9))) (cond (Nat.blt m 81) (cond (Nat.beq m 80) (0) (9)) (cond (Nat.beq m 81) (1) (9)))))) (cond (Nat.blt m 90) (cond (Nat.blt m 86) (cond (Nat.blt m 84) (cond (Nat.blt m 83) (cond (Nat.beq m 82) (2) (9)) (cond (Nat.beq m 83) (2) (9))) (cond (Nat.blt m 85) (cond (Nat.beq m 84) (2) (9)) (cond (Nat.beq m 85) (0) (9)))) (cond (Nat.blt m 88) (cond (Nat.blt m 87) (cond (Nat.beq m 86) (1) (9)) (cond (Nat.beq m 87) (1) (9))) (cond (Nat.blt m 89) (cond (Nat.beq m 88) (2) (9)) (cond (Nat.beq m 89) (1) (9))))) (cond (Nat.blt m 94) (cond (Nat.blt m 92) (cond (Nat.blt m 91) (cond (Nat.beq m 90) (0) (9)) (cond (Nat.beq m 91) (1) (9))) (cond (Nat.blt m 93) (cond (Nat.beq m 92) (1) (9)) (cond (Nat.beq m 93) (1) (9)))) (cond (Nat.blt m 96) (cond (Nat.blt m 95) (cond (Nat.beq m 94) (3) (9)) (cond (Nat.beq m 95) (0) (9))) (cond (Nat.blt m 97) (cond (Nat.beq m 96) (1) (9)) (cond (Nat.blt m 98) (cond (Nat.beq m 97) (1) (9)) (cond (Nat.beq m 98) (0) (9)))))))) (cond (Nat.blt m 115) (cond (Nat.blt m 107) (cond (Nat.blt m 103) (cond (Nat.blt m 101) (cond (Nat.blt m 100) (cond (Nat.beq m 99) (0) (9)) (cond (Nat.beq m 100) (0) (9))) (cond (Nat.blt m 102) (cond (Nat.beq m 101) (1) (9)) (cond (Nat.beq m 102) (1) (9)))) (cond (Nat.blt m 105) (cond (Nat.blt m 104) (cond (Nat.beq m 103) (1) (9)) (cond (Nat.beq m 104) (1) (9))) (cond (Nat.blt m 106) (cond (Nat.beq m 105) (1) (9)) (cond (Nat.beq m 106) (1) (9))))) (cond (Nat.blt m 111) (cond (Nat.blt m 109) (cond (Nat.blt m 108) (cond (Nat.beq m 107) (1) (9)) (cond (Nat.beq m 108) (1) (9))) (cond (Nat.blt m 110) (cond (Nat.beq m 109) (0) (9)) (cond (Nat.beq m 110) (1) (9)))) (cond (Nat.blt m 113) (cond (Nat.blt m 112) (cond (Nat.beq m 111) (0) (9)) (cond (Nat.beq m 112) (1) (9))) (cond (Nat.blt m 114) (cond (Nat.beq m 113) (1) (9)) (cond (Nat.beq m 114) (1) (9)))))) (cond (Nat.blt m 123) (cond (Nat.blt m 119) (cond (Nat.blt m 117) (cond (Nat.blt m 116) (cond (Nat.beq m 115) (2) (9)) (cond (Nat.beq m 116) (1) (9))) (cond (Nat.blt m 118) (cond (Nat.beq m 117) (1) (9)) (cond (Nat.beq m 118) (1) (9)))) (cond (Nat.blt m 121) (cond (Nat.blt m 120) (cond (Nat.beq m 119) (1) (9)) (cond (Nat.beq m 120) (1) (9))) (cond (Nat.blt m 122) (cond (Nat.beq m 121) (1) (9)) (cond (Nat.beq m 122) (1) (9))))) (cond (Nat.blt m 127) (cond (Nat.blt m 125) (cond (Nat.blt m 124) (cond (Nat.beq m 123) (1) (9)) (cond (Nat.beq m 124) (1) (9))) (cond (Nat.blt m 126) (cond (Nat.beq m 125) (2) (9)) (cond (Nat.beq m 126) (1) (9)))) (cond (Nat.blt m 129) (cond (Nat.blt m 128) (cond (Nat.beq m 127) (1) (9)) (cond (Nat.beq m 128) (1) (9))) (cond (Nat.blt m 130) (cond (Nat.beq m 129) (1) (9)) (cond (Nat.blt m 131) (cond (Nat.beq m 130) (1) (9)) (cond (Nat.beq m 131) (1) (9)))))))))) (cond (Nat.blt m 198) (cond (Nat.blt m 165) (cond (Nat.blt m 148) (cond (Nat.blt m 140) (cond (Nat.blt m 136) (cond (Nat.blt m 134) (cond (Nat.blt m 133) (cond (Nat.beq m 132) (1) (9)) (cond (Nat.beq m 133) (1) (9))) (cond (Nat.blt m 135) (cond (Nat.beq m 134) (1) (9)) (cond (Nat.beq m 135) (1) (9)))) (cond (Nat.blt m 138) (cond (Nat.blt m 137) (cond (Nat.beq m 136) (1) (9)) (cond (Nat.beq m 137) (1) (9))) (cond (Nat.blt m 139) (cond (Nat.beq m 138) (1) (9)) (cond (Nat.beq m 139) (1) (9))))) (cond (Nat.blt m 144) (cond (Nat.blt m 142) (cond (Nat.blt m 141) (cond (Nat.beq m 140) (1) (9)) (cond (Nat.beq m 141) (1) (9))) (cond (Nat.blt m 143) (cond (Nat.beq m 142) (1) (9)) (cond (Nat.beq m 143) (1) (9)))) (cond (Nat.blt m 146) (cond (Nat.blt m 145) (cond (Nat.beq m 144) (1) (9)) (cond (Nat.beq m 145) (1) (9))) (cond (Nat.blt m 147) (cond (Nat.beq m 146) (1) (9)) (cond (Nat.beq m 147) (1) (9)))))) (cond (Nat.blt m 156) (cond (Nat.blt m 152) (cond (Nat.blt m 150) (cond (Nat.blt m 149) (cond (Nat.beq m 148) (1) (9)) (cond (Nat.beq m 149) (2) (9))) (cond (Nat.blt m 151) (cond (Nat.beq m 150) (2) (9)) (cond (Nat.beq m 151) (2) (9)))) (cond (Nat.blt m 154) (cond (Nat.blt m 153) (cond (Nat.beq m 152) (0) (9)) (cond (Nat.beq m 153) (2) (9))) (cond (Nat.blt m 155) (cond (Nat.beq m 154) (1) (9)) (cond (Nat.beq m 155) (1) (9))))) (cond (Nat.blt m 160) (cond (Nat.blt m 158) (cond (Nat.blt m 157) (cond (Nat.beq m 156) (0) (9)) (cond (Nat.beq m 157) (1) (9))) (cond (Nat.blt m 159) (cond (Nat.beq m 158) (0) (9)) (cond (Nat.beq m 159) (2) (9)))) (cond (Nat.blt m 162) (cond (Nat.blt m 161) (cond (Nat.beq m 160) (1) (9)) (cond (Nat.beq m 161) (1) (9))) (cond (Nat.blt m 163) (cond (Nat.beq m 162) (4) (9)) (cond (Nat.blt m 164) (cond (Nat.beq m 163) (1) (9)) (cond (Nat.beq m 164) (2) (9)))))))) (cond (Nat.blt m 181) (cond (Nat.blt m 173) (cond (Nat.blt m 169) (cond (Nat.blt m 167) (cond (Nat.blt m 166) (cond (Nat.beq m 165) (2) (9)) (cond (Nat.beq m 166) (2) (9))) (cond (Nat.blt m 168) (cond (Nat.beq m 167) (1) (9)) (cond (Nat.beq m 168) (0) (9)))) (cond (Nat.blt m 171) (cond (Nat.blt m 170) (cond (Nat.beq m 169) (1) (9)) (cond (Nat.beq m 170) (1) (9))) (cond (Nat.blt m 172) (cond (Nat.beq m 171) (0) (9)) (cond (Nat.beq m 172) (0) (9))))) (cond (Nat.blt m 177) (cond (Nat.blt m 175) (cond (Nat.blt m 174) (cond (Nat.beq m 173) (0) (9)) (cond (Nat.beq m 174) (0) (9))) (cond (Nat.blt m 176) (cond (Nat.beq m 175) (0) (9)) (cond (Nat.beq m 176) (1) (9)))) (cond (Nat.blt m 179) (cond (Nat.blt m 178) (cond (Nat.beq m 177) (0) (9)) (cond (Nat.beq m 178) (2) (9))) (cond (Nat.blt m 180) (cond (Nat.beq m 179) (1) (9)) (cond (Nat.beq m 180) (0) (9)))))) (cond (Nat.blt m 189) (cond (Nat.blt m 185) (cond (Nat.blt m 183) (cond (Nat.blt m 182) (cond (Nat.beq m 181) (0) (9)) (cond (Nat.beq m 182) (0) (9))) (cond (Nat.blt m 184) (cond (Nat.beq m 183) (1) (9)) (cond (Nat.beq m 184) (2) (9)))) (cond (Nat.blt m 187) (cond (Nat.blt m 186) (cond (Nat.beq m 185) (2) (9)) (cond (Nat.beq m 186) (0) (9))) (cond (Nat.blt m 188) (cond (Nat.beq m 187) (2) (9)) (cond (Nat.beq m 188) (0) (9))))) (cond (Nat.blt m 193) (cond (Nat.blt m 191) (cond (Nat.blt m 190) (cond (Nat.beq m 189) (1) (9)) (cond (Nat.beq m 190) (1) (9))) (cond (Nat.blt m 192) (cond (Nat.beq m 191) (2) (9)) (cond (Nat.beq m 192) (1) (9)))) (cond (Nat.blt m 195) (cond (Nat.blt m 194) (cond (Nat.beq m 193) (0) (9)) (cond (Nat.beq m 194) (0) (9))) (cond (Nat.blt m 196) (cond (Nat.beq m 195) (0) (9)) (cond (Nat.blt m 197) (cond (Nat.beq m 196) (0) (9)) (cond (Nat.beq m 197) (2) (9))))))))) (cond (Nat.blt m 231) (cond (Nat.blt m 214) (cond (Nat.blt m 206) (cond (Nat.blt m 202) (cond (Nat.blt m 200) (cond (Nat.blt m 199) (cond (Nat.beq m 198) (2) (9)) (cond (Nat.beq m 199) (1) (9))) (cond (Nat.blt m 201) (cond (Nat.beq m 200) (1) (9)) (cond (Nat.beq m 201) (1) (9)))) (cond (Nat.blt m 204) (cond (Nat.blt m 203) (cond (Nat.beq m 202) (0) (9)) (cond (Nat.beq m 203) (1) (9))) (cond (Nat.blt m 205) (cond (Nat.beq m 204) (1) (9)) (cond (Nat.beq m 205) (1) (9))))) (cond (Nat.blt m 210) (cond (Nat.blt m 208) (cond (Nat.blt m 207) (cond (Nat.beq m 206) (0) (9)) (cond (Nat.beq m 207) (2) (9))) (cond (Nat.blt m 209) (cond (Nat.beq m 208) (0) (9)) (cond (Nat.beq m 209) (1) (9)))) (cond (Nat.blt m 212) (cond (Nat.blt m 211) (cond (Nat.beq m 210) (1) (9)) (cond (Nat.beq m 211) (1) (9))) (cond (Nat.blt m 213) (cond (Nat.beq m 212) (1) (9)) (cond (Nat.beq m 213) (2) (9)))))) (cond (Nat.blt m 222) (cond (Nat.blt m 218) (cond (Nat.blt m 216) (cond (Nat.blt m 215) (cond (Nat.beq m 214) (1) (9)) (cond (Nat.beq m 215) (1) (9))) (cond (Nat.blt m 217) (cond (Nat.beq m 216) (1) (9)) (cond (Nat.beq m 217) (1) (9)))) (cond (Nat.blt m 220) (cond (Nat.blt m 219) (cond (Nat.beq m 218) (1) (9)) (cond (Nat.beq m 219) (1) (9))) (cond (Nat.blt m 221) (cond (Nat.beq m 220) (1) (9)) (cond (Nat.beq m 221) (1) (9))))) (cond (Nat.blt m 226) (cond (Nat.blt m 224) (cond (Nat.blt m 223) (cond (Nat.beq m 222) (1) (9)) (cond (Nat.beq m 223) (2) (9))) (cond (Nat.blt m 225) (cond (Nat.beq m 224) (1) (9)) (cond (Nat.beq m 225) (2) (9)))) (cond (Nat.blt m 228) (cond (Nat.blt m 227) (cond (Nat.beq m 226) (1) (9)) (cond (Nat.beq m 227) (1) (9))) (cond (Nat.blt m 229) (cond (Nat.beq m 228) (1) (9)) (cond (Nat.blt m 230) (cond (Nat.beq m 229) (1) (9)) (cond (Nat.beq m 230) (1) (9)))))))) (cond (Nat.blt m 247) (cond (Nat.blt m 239) (cond (Nat.blt m 235) (cond (Nat.blt m 233) (cond (Nat.blt m 232) (cond (Nat.beq m 231) (1) (9)) (cond (Nat.beq m 232) (1) (9))) (cond (Nat.blt m 234) (cond (Nat.beq m 233) (1) (9)) (cond (Nat.beq m 234) (1) (9)))) (cond (Nat.blt m 237) (cond (Nat.blt m 236) (cond (Nat.beq m 235) (0) (9)) (cond (Nat.beq m 236) (0) (9))) (cond (Nat.blt m 238) (cond (Nat.beq m 237) (1) (9)) (cond (Nat.beq m 238) (1) (9))))) (cond (Nat.blt m 243) (cond (Nat.blt m 241) (cond (Nat.blt m 240) (cond (Nat.beq m 239) (0) (9)) (cond (Nat.beq m 240) (2) (9))) (cond (Nat.blt m 242) (cond (Nat.beq m 241) (1) (9)) (cond (Nat.beq m 242) (1) (9)))) (cond (Nat.blt m 245) (cond (Nat.blt m 244) (cond (Nat.beq m 243) (1) (9)) (cond (Nat.beq m 244) (1) (9))) (cond (Nat.blt m 246) (cond (Nat.beq m 245) (1) (9)) (cond (Nat.beq m 246) (1) (9)))))) (cond (Nat.blt m 255) (cond (Nat.blt m 251) (cond (Nat.blt m 249) (cond (Nat.blt m 248) (cond (Nat.beq m 247) (0) (9)) (cond (Nat.beq m 248) (2) (9))) (cond (Nat.blt m 250) (cond (Nat.beq m 249) (2) (9)) (cond (Nat.beq m 250) (2) (9)))) (cond (Nat.blt m 253) (cond (Nat.blt m 252) (cond (Nat.beq m 251) (1) (9)) (cond (Nat.beq m 252) (1) (9))) (cond (Nat.blt m 254) (cond (Nat.beq m 253) (1) (9)) (cond (Nat.beq m 254) (1) (9))))) (cond (Nat.blt m 259) (cond (Nat.blt m 257) (cond (Nat.blt m 256) (cond (Nat.beq m 255) (1) (9)) (cond (Nat.beq m 256) (1) (9))) (cond (Nat.blt m 258) (cond (Nat.beq m 257) (0) (9)) (cond (Nat.beq m 258) (0) (9)))) (cond (Nat.blt m 261) (cond (Nat.blt m 260) (cond (Nat.beq m 259) (1) (9)) (cond (Nat.beq m 260) (1) (9))) (cond (Nat.blt m 262) (cond (Nat.beq m 261) (1) (9)) (cond (Nat.blt m 263) (cond (Nat.beq m 262) (1) (9)) (cond (Nat.beq m 263) (0) (9))))))))))
def mSt (m : Nat) : Bool := cond (Nat.blt m 132) (cond (Nat.blt m 66) (cond (Nat.blt m 33) (cond (Nat.blt m 16) (cond (Nat.blt m 8) (cond (Nat.blt m 4) (cond (Nat.blt m 2) (cond (Nat.blt m 1) (cond (Nat.beq m 0) (true) (true)) (cond (Nat.beq m 1) (false) (true))) (cond (Nat.blt m 3) (cond (Nat.beq m 2) (false) (true)) (cond (Nat.beq m 3) (false) (true)))) (cond (Nat.blt m 6) (cond (Nat.blt m 5) (cond (Nat.beq m 4) (false) (true)) (cond (Nat.beq m 5) (false) (true))) (cond (Nat.blt m 7) (cond (Nat.beq m 6) (false) (true)) (cond (Nat.beq m 7) (false) (true))))) (cond (Nat.blt m 12) (cond (Nat.blt m 10) (cond (Nat.blt m 9) (cond (Nat.beq m 8) (false) (true)) (cond (Nat.beq m 9) (true) (true))) (cond (Nat.blt m 11) (cond (Nat.beq m 10) (false) (true)) (cond (Nat.beq m 11) (false) (true)))) (cond (Nat.blt m 14) (cond (Nat.blt m 13) (cond (Nat.beq m 12) (false) (true)) (cond (Nat.beq m 13) (false) (true))) (cond (Nat.blt m 15) (cond (Nat.beq m 14) (false) (true)) (cond (Nat.beq m 15) (false) (true)))))) (cond (Nat.blt m 24) (cond (Nat.blt m 20) (cond (Nat.blt m 18) (cond (Nat.blt m 17) (cond (Nat.beq m 16) (false) (true)) (cond (Nat.beq m 17) (false) (true))) (cond (Nat.blt m 19) (cond (Nat.beq m 18) (false) (true)) (cond (Nat.beq m 19) (false) (true)))) (cond (Nat.blt m 22) (cond (Nat.blt m 21) (cond (Nat.beq m 20) (false) (true)) (cond (Nat.beq m 21) (false) (true))) (cond (Nat.blt m 23) (cond (Nat.beq m 22) (false) (true)) (cond (Nat.beq m 23) (false) (true))))) (cond (Nat.blt m 28) (cond (Nat.blt m 26) (cond (Nat.blt m 25) (cond (Nat.beq m 24) (false) (true)) (cond (Nat.beq m 25) (false) (true))) (cond (Nat.blt m 27) (cond (Nat.beq m 26) (false) (true)) (cond (Nat.beq m 27) (false) (true)))) (cond (Nat.blt m 30) (cond (Nat.blt m 29) (cond (Nat.beq m 28) (false) (true)) (cond (Nat.beq m 29) (false) (true))) (cond (Nat.blt m 31) (cond (Nat.beq m 30) (false) (true)) (cond (Nat.blt m 32) (cond (Nat.beq m 31) (false) (true)) (cond (Nat.beq m 32) (false) (true)))))))) (cond (Nat.blt m 49) (cond (Nat.blt m 41) (cond (Nat.blt m 37) (cond (Nat.blt m 35) (cond (Nat.blt m 34) (cond (Nat.beq m 33) (false) (true)) (cond (Nat.beq m 34) (false) (true))) (cond (Nat.blt m 36) (cond (Nat.beq m 35) (false) (true)) (cond (Nat.beq m 36) (false) (true)))) (cond (Nat.blt m 39) (cond (Nat.blt m 38) (cond (Nat.beq m 37) (false) (true)) (cond (Nat.beq m 38) (false) (true))) (cond (Nat.blt m 40) (cond (Nat.beq m 39) (false) (true)) (cond (Nat.beq m 40) (false) (true))))) (cond (Nat.blt m 45) (cond (Nat.blt m 43) (cond (Nat.blt m 42) (cond (Nat.beq m 41) (false) (true)) (cond (Nat.beq m 42) (false) (true))) (cond (Nat.blt m 44) (cond (Nat.beq m 43) (false) (true)) (cond (Nat.beq m 44) (false) (true)))) (cond (Nat.blt m 47) (cond (Nat.blt m 46) (cond (Nat.beq m 45) (false) (true)) (cond (Nat.beq m 46) (false) (true))) (cond (Nat.blt m 48) (cond (Nat.beq m 47) (false) (true)) (cond (Nat.beq m 48) (false) (true)))))) (cond (Nat.blt m 57) (cond (Nat.blt m 53) (cond (Nat.blt m 51) (cond (Nat.blt m 50) (cond (Nat.beq m 49) (false) (true)) (cond (Nat.beq m 50) (true) (true))) (cond (Nat.blt m 52) (cond (Nat.beq m 51) (false) (true)) (cond (Nat.beq m 52) (false) (true)))) (cond (Nat.blt m 55) (cond (Nat.blt m 54) (cond (Nat.beq m 53) (false) (true)) (cond (Nat.beq m 54) (false) (true))) (cond (Nat.blt m 56) (cond (Nat.beq m 55) (false) (true)) (cond (Nat.beq m 56) (false) (true))))) (cond (Nat.blt m 61) (cond (Nat.blt m 59) (cond (Nat.blt m 58) (cond (Nat.beq m 57) (false) (true)) (cond (Nat.beq m 58) (false) (true))) (cond (Nat.blt m 60) (cond (Nat.beq m 59) (false) (true)) (cond (Nat.beq m 60) (false) (true)))) (cond (Nat.blt m 63) (cond (Nat.blt m 62) (cond (Nat.beq m 61) (false) (true)) (cond (Nat.beq m 62) (false) (true))) (cond (Nat.blt m 64) (cond (Nat.beq m 63) (false) (true)) (cond (Nat.blt m 65) (cond (Nat.beq m 64) (false) (true)) (cond (Nat.beq m 65) (false) (true))))))))) (cond (Nat.blt m 99) (cond (Nat.blt m 82) (cond (Nat.blt m 74) (cond (Nat.blt m 70) (cond (Nat.blt m 68) (cond (Nat.blt m 67) (cond (Nat.beq m 66) (false) (true)) (cond (Nat.beq m 67) (false) (true))) (cond (Nat.blt m 69) (cond (Nat.beq m 68) (false) (true)) (cond (Nat.beq m 69) (false) (true)))) (cond (Nat.blt m 72) (cond (Nat.blt m 71) (cond (Nat.beq m 70) (false) (true)) (cond (Nat.beq m 71) (false) (true))) (cond (Nat.blt m 73) (cond (Nat.beq m 72) (false) (true)) (cond (Nat.beq m 73) (false) (true))))) (cond (Nat.blt m 78) (cond (Nat.blt m 76) (cond (Nat.blt m 75) (cond (Nat.beq m 74) (false) (true)) (cond (Nat.beq m 75) (false) (true))) (cond (Nat.blt m 77) (cond (Nat.beq m 76) (false) (true)) (cond (Nat.beq m 77) (false) (true)))) (cond (Nat.blt m 80) (cond (Nat.blt m 79) (cond (Nat.beq m 78) (false) (true)) (cond (Nat.beq m 79) (false) (true))) (cond (Nat.blt m 81) (cond (Nat.beq m 80) (false) (true)) (cond (Nat.beq m 81) (false) (true)))))) (cond (Nat.blt m 90) (cond (Nat.blt m 86) (cond (Nat.blt m 84) (cond (Nat.blt m 83) (cond (Nat.beq m 82) (false) (true)) (cond (Nat.beq m 83) (true) (true))) (cond (Nat.blt m 85) (cond (Nat.beq m 84) (true) (true)) (cond (Nat.beq m 85) (false) (true)))) (cond (Nat.blt m 88) (cond (Nat.blt m 87) (cond (Nat.beq m 86) (false) (true)) (cond (Nat.beq m 87) (false) (true))) (cond (Nat.blt m 89) (cond (Nat.beq m 88) (false) (true)) (cond (Nat.beq m 89) (false) (true))))) (cond (Nat.blt m 94) (cond (Nat.blt m 92) (cond (Nat.blt m 91) (cond (Nat.beq m 90) (false) (true)) (cond (Nat.beq m 91) (false) (true))) (cond (Nat.blt m 93) (cond (Nat.beq m 92) (false) (true)) (cond (Nat.beq m 93) (true) (true)))) (cond (Nat.blt m 96) (cond (Nat.blt m 95) (cond (Nat.beq m 94) (false) (true)) (cond (Nat.beq m 95) (false) (true))) (cond (Nat.blt m 97) (cond (Nat.beq m 96) (false) (true)) (cond (Nat.blt m 98) (cond (Nat.beq m 97) (true) (true)) (cond (Nat.beq m 98) (true) (true)))))))) (cond (Nat.blt m 115) (cond (Nat.blt m 107) (cond (Nat.blt m 103) (cond (Nat.blt m 101) (cond (Nat.blt m 100) (cond (Nat.beq m 99) (true) (true)) (cond (Nat.beq m 100) (false) (true))) (cond (Nat.blt m 102) (cond (Nat.beq m 101) (false) (true)) (cond (Nat.beq m 102) (false) (true)))) (cond (Nat.blt m 105) (cond (Nat.blt m 104) (cond (Nat.beq m 103) (false) (true)) (cond (Nat.beq m 104) (false) (true))) (cond (Nat.blt m 106) (cond (Nat.beq m 105) (false) (true)) (cond (Nat.beq m 106) (false) (true))))) (cond (Nat.blt m 111) (cond (Nat.blt m 109) (cond (Nat.blt m 108) (cond (Nat.beq m 107) (false) (true)) (cond (Nat.beq m 108) (false) (true))) (cond (Nat.blt m 110) (cond (Nat.beq m 109) (false) (true)) (cond (Nat.beq m 110) (false) (true)))) (cond (Nat.blt m 113) (cond (Nat.blt m 112) (cond (Nat.beq m 111) (false) (true)) (cond (Nat.beq m 112) (false) (true))) (cond (Nat.blt m 114) (cond (Nat.beq m 113) (false) (true)) (cond (Nat.beq m 114) (false) (true)))))) (cond (Nat.blt m 123) (cond (Nat.blt m 119) (cond (Nat.blt m 117) (cond (Nat.blt m 116) (cond (Nat.beq m 115) (false) (true)) (cond (Nat.beq m 116) (false) (true))) (cond (Nat.blt m 118) (cond (Nat.beq m 117) (false) (true)) (cond (Nat.beq m 118) (false) (true)))) (cond (Nat.blt m 121) (cond (Nat.blt m 120) (cond (Nat.beq m 119) (false) (true)) (cond (Nat.beq m 120) (false) (true))) (cond (Nat.blt m 122) (cond (Nat.beq m 121) (false) (true)) (cond (Nat.beq m 122) (false) (true))))) (cond (Nat.blt m 127) (cond (Nat.blt m 125) (cond (Nat.blt m 124) (cond (Nat.beq m 123) (false) (true)) (cond (Nat.beq m 124) (false) (true))) (cond (Nat.blt m 126) (cond (Nat.beq m 125) (false) (true)) (cond (Nat.beq m 126) (false) (true)))) (cond (Nat.blt m 129) (cond (Nat.blt m 128) (cond (Nat.beq m 127) (false) (true)) (cond (Nat.beq m 128) (false) (true))) (cond (Nat.blt m 130) (cond (Nat.beq m 129) (false) (true)) (cond (Nat.blt m 131) (cond (Nat.beq m 130) (false) (true)) (cond (Nat.beq m 131) (false) (true)))))))))) (cond (Nat.blt m 198) (cond (Nat.blt m 165) (cond (Nat.blt m 148) (cond (Nat.blt m 140) (cond (Nat.blt m 136) (cond (Nat.blt m 134) (cond (Nat.blt m 133) (cond (Nat.beq m 132) (false) (true)) (cond (Nat.beq m 133) (false) (true))) (cond (Nat.blt m 135) (cond (Nat.beq m 134) (false) (true)) (cond (Nat.beq m 135) (false) (true)))) (cond (Nat.blt m 138) (cond (Nat.blt m 137) (cond (Nat.beq m 136) (false) (true)) (cond (Nat.beq m 137) (false) (true))) (cond (Nat.blt m 139) (cond (Nat.beq m 138) (false) (true)) (cond (Nat.beq m 139) (false) (true))))) (cond (Nat.blt m 144) (cond (Nat.blt m 142) (cond (Nat.blt m 141) (cond (Nat.beq m 140) (false) (true)) (cond (Nat.beq m 141) (false) (true))) (cond (Nat.blt m 143) (cond (Nat.beq m 142) (false) (true)) (cond (Nat.beq m 143) (false) (true)))) (cond (Nat.blt m 146) (cond (Nat.blt m 145) (cond (Nat.beq m 144) (false) (true)) (cond (Nat.beq m 145) (false) (true))) (cond (Nat.blt m 147) (cond (Nat.beq m 146) (false) (true)) (cond (Nat.beq m 147) (false) (true)))))) (cond (Nat.blt m 156) (cond (Nat.blt m 152) (cond (Nat.blt m 150) (cond (Nat.blt m 149) (cond (Nat.beq m 148) (false) (true)) (cond (Nat.beq m 149) (true) (true))) (cond (Nat.blt m 151) (cond (Nat.beq m 150) (true) (true)) (cond (Nat.beq m 151) (true) (true)))) (cond (Nat.blt m 154) (cond (Nat.blt m 153) (cond (Nat.beq m 152) (false) (true)) (cond (Nat.beq m 153) (true) (true))) (cond (Nat.blt m 155) (cond (Nat.beq m 154) (true) (true)) (cond (Nat.beq m 155) (false) (true))))) (cond (Nat.blt m 160) (cond (Nat.blt m 158) (cond (Nat.blt m 157) (cond (Nat.beq m 156) (false) (true)) (cond (Nat.beq m 157) (false) (true))) (cond (Nat.blt m 159) (cond (Nat.beq m 158) (false) (true)) (cond (Nat.beq m 159) (false) (true)))) (cond (Nat.blt m 162) (cond (Nat.blt m 161) (cond (Nat.beq m 160) (false) (true)) (cond (Nat.beq m 161) (false) (true))) (cond (Nat.blt m 163) (cond (Nat.beq m 162) (true) (true)) (cond (Nat.blt m 164) (cond (Nat.beq m 163) (false) (true)) (cond (Nat.beq m 164) (false) (true)))))))) (cond (Nat.blt m 181) (cond (Nat.blt m 173) (cond (Nat.blt m 169) (cond (Nat.blt m 167) (cond (Nat.blt m 166) (cond (Nat.beq m 165) (false) (true)) (cond (Nat.beq m 166) (false) (true))) (cond (Nat.blt m 168) (cond (Nat.beq m 167) (false) (true)) (cond (Nat.beq m 168) (false) (true)))) (cond (Nat.blt m 171) (cond (Nat.blt m 170) (cond (Nat.beq m 169) (true) (true)) (cond (Nat.beq m 170) (true) (true))) (cond (Nat.blt m 172) (cond (Nat.beq m 171) (false) (true)) (cond (Nat.beq m 172) (false) (true))))) (cond (Nat.blt m 177) (cond (Nat.blt m 175) (cond (Nat.blt m 174) (cond (Nat.beq m 173) (false) (true)) (cond (Nat.beq m 174) (false) (true))) (cond (Nat.blt m 176) (cond (Nat.beq m 175) (false) (true)) (cond (Nat.beq m 176) (false) (true)))) (cond (Nat.blt m 179) (cond (Nat.blt m 178) (cond (Nat.beq m 177) (false) (true)) (cond (Nat.beq m 178) (false) (true))) (cond (Nat.blt m 180) (cond (Nat.beq m 179) (false) (true)) (cond (Nat.beq m 180) (false) (true)))))) (cond (Nat.blt m 189) (cond (Nat.blt m 185) (cond (Nat.blt m 183) (cond (Nat.blt m 182) (cond (Nat.beq m 181) (false) (true)) (cond (Nat.beq m 182) (false) (true))) (cond (Nat.blt m 184) (cond (Nat.beq m 183) (false) (true)) (cond (Nat.beq m 184) (false) (true)))) (cond (Nat.blt m 187) (cond (Nat.blt m 186) (cond (Nat.beq m 185) (false) (true)) (cond (Nat.beq m 186) (false) (true))) (cond (Nat.blt m 188) (cond (Nat.beq m 187) (false) (true)) (cond (Nat.beq m 188) (false) (true))))) (cond (Nat.blt m 193) (cond (Nat.blt m 191) (cond (Nat.blt m 190) (cond (Nat.beq m 189) (true) (true)) (cond (Nat.beq m 190) (false) (true))) (cond (Nat.blt m 192) (cond (Nat.beq m 191) (false) (true)) (cond (Nat.beq m 192) (false) (true)))) (cond (Nat.blt m 195) (cond (Nat.blt m 194) (cond (Nat.beq m 193) (false) (true)) (cond (Nat.beq m 194) (false) (true))) (cond (Nat.blt m 196) (cond (Nat.beq m 195) (false) (true)) (cond (Nat.blt m 197) (cond (Nat.beq m 196) (false) (true)) (cond (Nat.beq m 197) (false) (true))))))))) (cond (Nat.blt m 231) (cond (Nat.blt m 214) (cond (Nat.blt m 206) (cond (Nat.blt m 202) (cond (Nat.blt m 200) (cond (Nat.blt m 199) (cond (Nat.beq m 198) (false) (true)) (cond (Nat.beq m 199) (false) (true))) (cond (Nat.blt m 201) (cond (Nat.beq m 200) (false) (true)) (cond (Nat.beq m 201) (false) (true)))) (cond (Nat.blt m 204) (cond (Nat.blt m 203) (cond (Nat.beq m 202) (false) (true)) (cond (Nat.beq m 203) (false) (true))) (cond (Nat.blt m 205) (cond (Nat.beq m 204) (false) (true)) (cond (Nat.beq m 205) (false) (true))))) (cond (Nat.blt m 210) (cond (Nat.blt m 208) (cond (Nat.blt m 207) (cond (Nat.beq m 206) (false) (true)) (cond (Nat.beq m 207) (false) (true))) (cond (Nat.blt m 209) (cond (Nat.beq m 208) (false) (true)) (cond (Nat.beq m 209) (false) (true)))) (cond (Nat.blt m 212) (cond (Nat.blt m 211) (cond (Nat.beq m 210) (false) (true)) (cond (Nat.beq m 211) (false) (true))) (cond (Nat.blt m 213) (cond (Nat.beq m 212) (false) (true)) (cond (Nat.beq m 213) (false) (true)))))) (cond (Nat.blt m 222) (cond (Nat.blt m 218) (cond (Nat.blt m 216) (cond (Nat.blt m 215) (cond (Nat.beq m 214) (false) (true)) (cond (Nat.beq m 215) (false) (true))) (cond (Nat.blt m 217) (cond (Nat.beq m 216) (false) (true)) (cond (Nat.beq m 217) (false) (true)))) (cond (Nat.blt m 220) (cond (Nat.blt m 219) (cond (Nat.beq m 218) (false) (true)) (cond (Nat.beq m 219) (false) (true))) (cond (Nat.blt m 221) (cond (Nat.beq m 220) (false) (true)) (cond (Nat.beq m 221) (false) (true))))) (cond (Nat.blt m 226) (cond (Nat.blt m 224) (cond (Nat.blt m 223) (cond (Nat.beq m 222) (false) (true)) (cond (Nat.beq m 223) (false) (true))) (cond (Nat.blt m 225) (cond (Nat.beq m 224) (false) (true)) (cond (Nat.beq m 225) (false) (true)))) (cond (Nat.blt m 228) (cond (Nat.blt m 227) (cond (Nat.beq m 226) (false) (true)) (cond (Nat.beq m 227) (false) (true))) (cond (Nat.blt m 229) (cond (Nat.beq m 228) (false) (true)) (cond (Nat.blt m 230) (cond (Nat.beq m 229) (false) (true)) (cond (Nat.beq m 230) (false) (true)))))))) (cond (Nat.blt m 247) (cond (Nat.blt m 239) (cond (Nat.blt m 235) (cond (Nat.blt m 233) (cond (Nat.blt m 232) (cond (Nat.beq m 231) (false) (true)) (cond (Nat.beq m 232) (false) (true))) (cond (Nat.blt m 234) (cond (Nat.beq m 233) (false) (true)) (cond (Nat.beq m 234) (false) (true)))) (cond (Nat.blt m 237) (cond (Nat.blt m 236) (cond (Nat.beq m 235) (false) (true)) (cond (Nat.beq m 236) (false) (true))) (cond (Nat.blt m 238) (cond (Nat.beq m 237) (false) (true)) (cond (Nat.beq m 238) (false) (true))))) (cond (Nat.blt m 243) (cond (Nat.blt m 241) (cond (Nat.blt m 240) (cond (Nat.beq m 239) (false) (true)) (cond (Nat.beq m 240) (false) (true))) (cond (Nat.blt m 242) (cond (Nat.beq m 241) (false) (true)) (cond (Nat.beq m 242) (false) (true)))) (cond (Nat.blt m 245) (cond (Nat.blt m 244) (cond (Nat.beq m 243) (false) (true)) (cond (Nat.beq m 244) (false) (true))) (cond (Nat.blt m 246) (cond (Nat.beq m 245) (false) (true)) (cond (Nat.beq m 246) (false) (true)))))) (cond (Nat.blt m 255) (cond (Nat.blt m 251) (cond (Nat.blt m 249) (cond (Nat.blt m 248) (cond (Nat.beq m 247) (false) (true)) (cond (Nat.beq m 248) (false) (true))) (cond (Nat.blt m 250) (cond (Nat.beq m 249) (false) (true)) (cond (Nat.beq m 250) (false) (true)))) (cond (Nat.blt m 253) (cond (Nat.blt m 252) (cond (Nat.beq m 251) (false) (true)) (cond (Nat.beq m 252) (false) (true))) (cond (Nat.blt m 254) (cond (Nat.beq m 253) (false) (true)) (cond (Nat.beq m 254) (false) (true))))) (cond (Nat.blt m 259) (cond (Nat.blt m 257) (cond (Nat.blt m 256) (cond (Nat.beq m 255) (false) (true)) (cond (Nat.beq m 256) (false) (true))) (cond (Nat.blt m 258) (cond (Nat.beq m 257) (false) (true)) (cond (Nat.beq m 258) (false) (true)))) (cond (Nat.blt m 261) (cond (Nat.blt m 260) (cond (Nat.beq m 259) (false) (true)) (cond (Nat.beq m 260) (false) (true))) (cond (Nat.blt m 262) (cond (Nat.beq m 261) (false) (true)) (cond (Nat.blt m 263) (cond (Nat.beq m 262) (false) (true)) (cond (Nat.beq m 263) (true) (true))))))))))
def mCls (m : Nat) : Nat := cond (Nat.blt m 132) (cond (Nat.blt m 66) (cond (Nat.blt m 33) (cond (Nat.blt m 16) (cond (Nat.blt m 8) (cond (Nat.blt m 4) (cond (Nat.blt m 2) (cond (Nat.blt m 1) (cond (Nat.beq m 0) (51) (98)) (cond (Nat.beq m 1) (0) (98))) (cond (Nat.blt m 3) (cond (Nat.beq m 2) (0) (98)) (cond (Nat.beq m 3) (0) (98)))) (cond (Nat.blt m 6) (cond (Nat.blt m 5) (cond (Nat.beq m 4) (0) (98)) (cond (Nat.beq m 5) (0) (98))) (cond (Nat.blt m 7) (cond (Nat.beq m 6) (0) (98)) (cond (Nat.beq m 7) (0) (98))))) (cond (Nat.blt m 12) (cond (Nat.blt m 10) (cond (Nat.blt m 9) (cond (Nat.beq m 8) (0) (98)) (cond (Nat.beq m 9) (0) (98))) (cond (Nat.blt m 11) (cond (Nat.beq m 10) (0) (98)) (cond (Nat.beq m 11) (1) (98)))) (cond (Nat.blt m 14) (cond (Nat.blt m 13) (cond (Nat.beq m 12) (1) (98)) (cond (Nat.beq m 13) (1) (98))) (cond (Nat.blt m 15) (cond (Nat.beq m 14) (1) (98)) (cond (Nat.beq m 15) (1) (98)))))) (cond (Nat.blt m 24) (cond (Nat.blt m 20) (cond (Nat.blt m 18) (cond (Nat.blt m 17) (cond (Nat.beq m 16) (1) (98)) (cond (Nat.beq m 17) (1) (98))) (cond (Nat.blt m 19) (cond (Nat.beq m 18) (2) (98)) (cond (Nat.beq m 19) (2) (98)))) (cond (Nat.blt m 22) (cond (Nat.blt m 21) (cond (Nat.beq m 20) (2) (98)) (cond (Nat.beq m 21) (2) (98))) (cond (Nat.blt m 23) (cond (Nat.beq m 22) (2) (98)) (cond (Nat.beq m 23) (2) (98))))) (cond (Nat.blt m 28) (cond (Nat.blt m 26) (cond (Nat.blt m 25) (cond (Nat.beq m 24) (2) (98)) (cond (Nat.beq m 25) (2) (98))) (cond (Nat.blt m 27) (cond (Nat.beq m 26) (2) (98)) (cond (Nat.beq m 27) (2) (98)))) (cond (Nat.blt m 30) (cond (Nat.blt m 29) (cond (Nat.beq m 28) (2) (98)) (cond (Nat.beq m 29) (2) (98))) (cond (Nat.blt m 31) (cond (Nat.beq m 30) (2) (98)) (cond (Nat.blt m 32) (cond (Nat.beq m 31) (2) (98)) (cond (Nat.beq m 32) (2) (98)))))))) (cond (Nat.blt m 49) (cond (Nat.blt m 41) (cond (Nat.blt m 37) (cond (Nat.blt m 35) (cond (Nat.blt m 34) (cond (Nat.beq m 33) (2) (98)) (cond (Nat.beq m 34) (2) (98))) (cond (Nat.blt m 36) (cond (Nat.beq m 35) (2) (98)) (cond (Nat.beq m 36) (2) (98)))) (cond (Nat.blt m 39) (cond (Nat.blt m 38) (cond (Nat.beq m 37) (2) (98)) (cond (Nat.beq m 38) (2) (98))) (cond (Nat.blt m 40) (cond (Nat.beq m 39) (2) (98)) (cond (Nat.beq m 40) (2) (98))))) (cond (Nat.blt m 45) (cond (Nat.blt m 43) (cond (Nat.blt m 42) (cond (Nat.beq m 41) (2) (98)) (cond (Nat.beq m 42) (2) (98))) (cond (Nat.blt m 44) (cond (Nat.beq m 43) (2) (98)) (cond (Nat.beq m 44) (2) (98)))) (cond (Nat.blt m 47) (cond (Nat.blt m 46) (cond (Nat.beq m 45) (2) (98)) (cond (Nat.beq m 46) (2) (98))) (cond (Nat.blt m 48) (cond (Nat.beq m 47) (2) (98)) (cond (Nat.beq m 48) (2) (98)))))) (cond (Nat.blt m 57) (cond (Nat.blt m 53) (cond (Nat.blt m 51) (cond (Nat.blt m 50) (cond (Nat.beq m 49) (2) (98)) (cond (Nat.beq m 50) (2) (98))) (cond (Nat.blt m 52) (cond (Nat.beq m 51) (2) (98)) (cond (Nat.beq m 52) (2) (98)))) (cond (Nat.blt m 55) (cond (Nat.blt m 54) (cond (Nat.beq m 53) (2) (98)) (cond (Nat.beq m 54) (2) (98))) (cond (Nat.blt m 56) (cond (Nat.beq m 55) (2) (98)) (cond (Nat.beq m 56) (2) (98))))) (cond (Nat.blt m 61) (cond (Nat.blt m 59) (cond (Nat.blt m 58) (cond (Nat.beq m 57) (2) (98)) (cond (Nat.beq m 58) (2) (98))) (cond (Nat.blt m 60) (cond (Nat.beq m 59) (2) (98)) (cond (Nat.beq m 60) (2) (98)))) (cond (Nat.blt m 63) (cond (Nat.blt m 62) (cond (Nat.beq m 61) (2) (98)) (cond (Nat.beq m 62) (2) (98))) (cond (Nat.blt m 64) (cond (Nat.beq m 63) (2) (98)) (cond (Nat.blt m 65) (cond (Nat.beq m 64) (3) (98)) (cond (Nat.beq m 65) (3) (98))))))))) (cond (Nat.blt m 99) (cond (Nat.blt m 82) (cond (Nat.blt m 74) (cond (Nat.blt m 70) (cond (Nat.blt m 68) (cond (Nat.blt m 67) (cond (Nat.beq m 66) (3) (98)) (cond (Nat.beq m 67) (3) (98))) (cond (Nat.blt m 69) (cond (Nat.beq m 68) (4) (98)) (cond (Nat.beq m 69) (4) (98)))) (cond (Nat.blt m 72) (cond (Nat.blt m 71) (cond (Nat.beq m 70) (4) (98)) (cond (Nat.beq m 71) (4) (98))) (cond (Nat.blt m 73) (cond (Nat.beq m 72) (4) (98)) (cond (Nat.beq m 73) (4) (98))))) (cond (Nat.blt m 78) (cond (Nat.blt m 76) (cond (Nat.blt m 75) (cond (Nat.beq m 74) (4) (98)) (cond (Nat.beq m 75) (4) (98))) (cond (Nat.blt m 77) (cond (Nat.beq m 76) (4) (98)) (cond (Nat.beq m 77) (4) (98)))) (cond (Nat.blt m 80) (cond (Nat.blt m 79) (cond (Nat.beq m 78) (4) (98)) (cond (Nat.beq m 79) (4) (98))) (cond (Nat.blt m 81) (cond (Nat.beq m 80) (4) (98)) (cond (Nat.beq m 81) (4) (98)))))) (cond (Nat.blt m 90) (cond (Nat.blt m 86) (cond (Nat.blt m 84) (cond (Nat.blt m 83) (cond (Nat.beq m 82) (4) (98)) (cond (Nat.beq m 83) (4) (98))) (cond (Nat.blt m 85) (cond (Nat.beq m 84) (4) (98)) (cond (Nat.beq m 85) (5) (98)))) (cond (Nat.blt m 88) (cond (Nat.blt m 87) (cond (Nat.beq m 86) (5) (98)) (cond (Nat.beq m 87) (5) (98))) (cond (Nat.blt m 89) (cond (Nat.beq m 88) (5) (98)) (cond (Nat.beq m 89) (5) (98))))) (cond (Nat.blt m 94) (cond (Nat.blt m 92) (cond (Nat.blt m 91) (cond (Nat.beq m 90) (5) (98)) (cond (Nat.beq m 91) (5) (98))) (cond (Nat.blt m 93) (cond (Nat.beq m 92) (5) (98)) (cond (Nat.beq m 93) (5) (98)))) (cond (Nat.blt m 96) (cond (Nat.blt m 95) (cond (Nat.beq m 94) (5) (98)) (cond (Nat.beq m 95) (5) (98))) (cond (Nat.blt m 97) (cond (Nat.beq m 96) (5) (98)) (cond (Nat.blt m 98) (cond (Nat.beq m 97) (50) (98)) (cond (Nat.beq m 98) (50) (98)))))))) (cond (Nat.blt m 115) (cond (Nat.blt m 107) (cond (Nat.blt m 103) (cond (Nat.blt m 101) (cond (Nat.blt m 100) (cond (Nat.beq m 99) (50) (98)) (cond (Nat.beq m 100) (6) (98))) (cond (Nat.blt m 102) (cond (Nat.beq m 101) (6) (98)) (cond (Nat.beq m 102) (6) (98)))) (cond (Nat.blt m 105) (cond (Nat.blt m 104) (cond (Nat.beq m 103) (6) (98)) (cond (Nat.beq m 104) (6) (98))) (cond (Nat.blt m 106) (cond (Nat.beq m 105) (6) (98)) (cond (Nat.beq m 106) (6) (98))))) (cond (Nat.blt m 111) (cond (Nat.blt m 109) (cond (Nat.blt m 108) (cond (Nat.beq m 107) (6) (98)) (cond (Nat.beq m 108) (6) (98))) (cond (Nat.blt m 110) (cond (Nat.beq m 109) (7) (98)) (cond (Nat.beq m 110) (7) (98)))) (cond (Nat.blt m 113) (cond (Nat.blt m 112) (cond (Nat.beq m 111) (7) (98)) (cond (Nat.beq m 112) (7) (98))) (cond (Nat.blt m 114) (cond (Nat.beq m 113) (7) (98)) (cond (Nat.beq m 114) (7) (98)))))) (cond (Nat.blt m 123) (cond (Nat.blt m 119) (cond (Nat.blt m 117) (cond (Nat.blt m 116) (cond (Nat.beq m 115) (7) (98)) (cond (Nat.beq m 116) (7) (98))) (cond (Nat.blt m 118) (cond (Nat.beq m 117) (7) (98)) (cond (Nat.beq m 118) (7) (98)))) (cond (Nat.blt m 121) (cond (Nat.blt m 120) (cond (Nat.beq m 119) (7) (98)) (cond (Nat.beq m 120) (7) (98))) (cond (Nat.blt m 122) (cond (Nat.beq m 121) (7) (98)) (cond (Nat.beq m 122) (7) (98))))) (cond (Nat.blt m 127) (cond (Nat.blt m 125) (cond (Nat.blt m 124) (cond (Nat.beq m 123) (7) (98)) (cond (Nat.beq m 124) (7) (98))) (cond (Nat.blt m 126) (cond (Nat.beq m 125) (7) (98)) (cond (Nat.beq m 126) (7) (98)))) (cond (Nat.blt m 129) (cond (Nat.blt m 128) (cond (Nat.beq m 127) (7) (98)) (cond (Nat.beq m 128) (7) (98))) (cond (Nat.blt m 130) (cond (Nat.beq m 129) (7) (98)) (cond (Nat.blt m 131) (cond (Nat.beq m 130) (7) (98)) (cond (Nat.beq m 131) (7) (98)))))))))) (cond (Nat.blt m 198) (cond (Nat.blt m 165) (cond (Nat.blt m 148) (cond (Nat.blt m 140) (cond (Nat.blt m 136) (cond (Nat.blt m 134) (cond (Nat.blt m 133) (cond (Nat.beq m 132) (7) (98)) (cond (Nat.beq m 133) (7) (98))) (cond (Nat.blt m 135) (cond (Nat.beq m 134) (7) (98)) (cond (Nat.beq m 135) (7) (98)))) (cond (Nat.blt m 138) (cond (Nat.blt m 137) (cond (Nat.beq m 136) (7) (98)) (cond (Nat.beq m 137) (7) (98))) (cond (Nat.blt m 139) (cond (Nat.beq m 138) (7) (98)) (cond (Nat.beq m 139) (7) (98))))) (cond (Nat.blt m 144) (cond (Nat.blt m 142) (cond (Nat.blt m 141) (cond (Nat.beq m 140) (7) (98)) (cond (Nat.beq m 141) (7) (98))) (cond (Nat.blt m 143) (cond (Nat.beq m 142) (7) (98)) (cond (Nat.beq m 143) (7) (98)))) (cond (Nat.blt m 146) (cond (Nat.blt m 145) (cond (Nat.beq m 144) (7) (98)) (cond (Nat.beq m 145) (7) (98))) (cond (Nat.blt m 147) (cond (Nat.beq m 146) (7) (98)) (cond (Nat.beq m 147) (7) (98)))))) (cond (Nat.blt m 156) (cond (Nat.blt m 152) (cond (Nat.blt m 150) (cond (Nat.blt m 149) (cond (Nat.beq m 148) (7) (98)) (cond (Nat.beq m 149) (7) (98))) (cond (Nat.blt m 151) (cond (Nat.beq m 150) (7) (98)) (cond (Nat.beq m 151) (7) (98)))) (cond (Nat.blt m 154) (cond (Nat.blt m 153) (cond (Nat.beq m 152) (8) (98)) (cond (Nat.beq m 153) (8) (98))) (cond (Nat.blt m 155) (cond (Nat.beq m 154) (8) (98)) (cond (Nat.beq m 155) (8) (98))))) (cond (Nat.blt m 160) (cond (Nat.blt m 158) (cond (Nat.blt m 157) (cond (Nat.beq m 156) (8) (98)) (cond (Nat.beq m 157) (8) (98))) (cond (Nat.blt m 159) (cond (Nat.beq m 158) (8) (98)) (cond (Nat.beq m 159) (8) (98)))) (cond (Nat.blt m 162) (cond (Nat.blt m 161) (cond (Nat.beq m 160) (8) (98)) (cond (Nat.beq m 161) (8) (98))) (cond (Nat.blt m 163) (cond (Nat.beq m 162) (8) (98)) (cond (Nat.blt m 164) (cond (Nat.beq m 163) (8) (98)) (cond (Nat.beq m 164) (8) (98)))))))) (cond (Nat.blt m 181) (cond (Nat.blt m 173) (cond (Nat.blt m 169) (cond (Nat.blt m 167) (cond (Nat.blt m 166) (cond (Nat.beq m 165) (8) (98)) (cond (Nat.beq m 166) (8) (98))) (cond (Nat.blt m 168) (cond (Nat.beq m 167) (8) (98)) (cond (Nat.beq m 168) (8) (98)))) (cond (Nat.blt m 171) (cond (Nat.blt m 170) (cond (Nat.beq m 169) (8) (98)) (cond (Nat.beq m 170) (8) (98))) (cond (Nat.blt m 172) (cond (Nat.beq m 171) (8) (98)) (cond (Nat.beq m 172) (8) (98))))) (cond (Nat.blt m 177) (cond (Nat.blt m 175) (cond (Nat.blt m 174) (cond (Nat.beq m 173) (8) (98)) (cond (Nat.beq m 174) (8) (98))) (cond (Nat.blt m 176) (cond (Nat.beq m 175) (8) (98)) (cond (Nat.beq m 176) (8) (98)))) (cond (Nat.blt m 179) (cond (Nat.blt m 178) (cond (Nat.beq m 177) (8) (98)) (cond (Nat.beq m 178) (8) (98))) (cond (Nat.blt m 180) (cond (Nat.beq m 179) (8) (98)) (cond (Nat.beq m 180) (8) (98)))))) (cond (Nat.blt m 189) (cond (Nat.blt m 185) (cond (Nat.blt m 183) (cond (Nat.blt m 182) (cond (Nat.beq m 181) (8) (98)) (cond (Nat.beq m 182) (8) (98))) (cond (Nat.blt m 184) (cond (Nat.beq m 183) (8) (98)) (cond (Nat.beq m 184) (8) (98)))) (cond (Nat.blt m 187) (cond (Nat.blt m 186) (cond (Nat.beq m 185) (8) (98)) (cond (Nat.beq m 186) (8) (98))) (cond (Nat.blt m 188) (cond (Nat.beq m 187) (8) (98)) (cond (Nat.beq m 188) (8) (98))))) (cond (Nat.blt m 193) (cond (Nat.blt m 191) (cond (Nat.blt m 190) (cond (Nat.beq m 189) (8) (98)) (cond (Nat.beq m 190) (8) (98))) (cond (Nat.blt m 192) (cond (Nat.beq m 191) (8) (98)) (cond (Nat.beq m 192) (8) (98)))) (cond (Nat.blt m 195) (cond (Nat.blt m 194) (cond (Nat.beq m 193) (8) (98)) (cond (Nat.beq m 194) (8) (98))) (cond (Nat.blt m 196) (cond (Nat.beq m 195) (8) (98)) (cond (Nat.blt m 197) (cond (Nat.beq m 196) (8) (98)) (cond (Nat.beq m 197) (8) (98))))))))) (cond (Nat.blt m 231) (cond (Nat.blt m 214) (cond (Nat.blt m 206) (cond (Nat.blt m 202) (cond (Nat.blt m 200) (cond (Nat.blt m 199) (cond (Nat.beq m 198) (8) (98)) (cond (Nat.beq m 199) (8) (98))) (cond (Nat.blt m 201) (cond (Nat.beq m 200) (8) (98)) (cond (Nat.beq m 201) (8) (98)))) (cond (Nat.blt m 204) (cond (Nat.blt m 203) (cond (Nat.beq m 202) (8) (98)) (cond (Nat.beq m 203) (8) (98))) (cond (Nat.blt m 205) (cond (Nat.beq m 204) (8) (98)) (cond (Nat.beq m 205) (8) (98))))) (cond (Nat.blt m 210) (cond (Nat.blt m 208) (cond (Nat.blt m 207) (cond (Nat.beq m 206) (8) (98)) (cond (Nat.beq m 207) (8) (98))) (cond (Nat.blt m 209) (cond (Nat.beq m 208) (8) (98)) (cond (Nat.beq m 209) (8) (98)))) (cond (Nat.blt m 212) (cond (Nat.blt m 211) (cond (Nat.beq m 210) (8) (98)) (cond (Nat.beq m 211) (8) (98))) (cond (Nat.blt m 213) (cond (Nat.beq m 212) (8) (98)) (cond (Nat.beq m 213) (8) (98)))))) (cond (Nat.blt m 222) (cond (Nat.blt m 218) (cond (Nat.blt m 216) (cond (Nat.blt m 215) (cond (Nat.beq m 214) (8) (98)) (cond (Nat.beq m 215) (8) (98))) (cond (Nat.blt m 217) (cond (Nat.beq m 216) (8) (98)) (cond (Nat.beq m 217) (8) (98)))) (cond (Nat.blt m 220) (cond (Nat.blt m 219) (cond (Nat.beq m 218) (8) (98)) (cond (Nat.beq m 219) (8) (98))) (cond (Nat.blt m 221) (cond (Nat.beq m 220) (8) (98)) (cond (Nat.beq m 221) (8) (98))))) (cond (Nat.blt m 226) (cond (Nat.blt m 224) (cond (Nat.blt m 223) (cond (Nat.beq m 222) (8) (98)) (cond (Nat.beq m 223) (8) (98))) (cond (Nat.blt m 225) (cond (Nat.beq m 224) (8) (98)) (cond (Nat.beq m 225) (8) (98)))) (cond (Nat.blt m 228) (cond (Nat.blt m 227) (cond (Nat.beq m 226) (8) (98)) (cond (Nat.beq m 227) (8) (98))) (cond (Nat.blt m 229) (cond (Nat.beq m 228) (8) (98)) (cond (Nat.blt m 230) (cond (Nat.beq m 229) (8) (98)) (cond (Nat.beq m 230) (8) (98)))))))) (cond (Nat.blt m 247) (cond (Nat.blt m 239) (cond (Nat.blt m 235) (cond (Nat.blt m 233) (cond (Nat.blt m 232) (cond (Nat.beq m 231) (8) (98)) (cond (Nat.beq m 232) (8) (98))) (cond (Nat.blt m 234) (cond (Nat.beq m 233) (8) (98)) (cond (Nat.beq m 234) (8) (98)))) (cond (Nat.blt m 237) (cond (Nat.blt m 236) (cond (Nat.beq m 235) (8) (98)) (cond (Nat.beq m 236) (8) (98))) (cond (Nat.blt m 238) (cond (Nat.beq m 237) (8) (98)) (cond (Nat.beq m 238) (8) (98))))) (cond (Nat.blt m 243) (cond (Nat.blt m 241) (cond (Nat.blt m 240) (cond (Nat.beq m 239) (8) (98)) (cond (Nat.beq m 240) (8) (98))) (cond (Nat.blt m 242) (cond (Nat.beq m 241) (8) (98)) (cond (Nat.beq m 242) (8) (98)))) (cond (Nat.blt m 245) (cond (Nat.blt m 244) (cond (Nat.beq m 243) (8) (98)) (cond (Nat.beq m 244) (8) (98))) (cond (Nat.blt m 246) (cond (Nat.beq m 245) (8) (98)) (cond (Nat.beq m 246) (8) (98)))))) (cond (Nat.blt m 255) (cond (Nat.blt m 251) (cond (Nat.blt m 249) (cond (Nat.blt m 248) (cond (Nat.beq m 247) (8) (98)) (cond (Nat.beq m 248) (8) (98))) (cond (Nat.blt m 250) (cond (Nat.beq m 249) (8) (98)) (cond (Nat.beq m 250) (8) (98)))) (cond (Nat.blt m 253) (cond (Nat.blt m 252) (cond (Nat.beq m 251) (8) (98)) (cond (Nat.beq m 252) (8) (98))) (cond (Nat.blt m 254) (cond (Nat.beq m 253) (8) (98)) (cond (Nat.beq m 254) (8) (98))))) (cond (Nat.blt m 259) (cond (Nat.blt m 257) (cond (Nat.blt m 256) (cond (Nat.beq m 255) (8) (98)) (cond (Nat.beq m 256) (8) (98))) (cond (Nat.blt m 258) (cond (Nat.beq m 257) (8) (98)) (cond (Nat.beq m 258) (8) (98)))) (cond (Nat.blt m 261) (cond (Nat.blt m 260) (cond (Nat.beq m 259) (8) (98)) (cond (Nat.beq m 260) (8) (98))) (cond (Nat.blt m 262) (cond (Nat.beq m 261) (8) (98)) (cond (Nat.blt m 263) (cond (Nat.beq m 262) (8) (98)) (cond (Nat.beq m 263) (52) (98))))))))))
/-- has it longs among its locals -/
def mLong (m : Nat) : Bool := cond (Nat.blt m 132) (cond (Nat.blt m 66) (cond (Nat.blt m 33) (cond (Nat.blt m 16) (cond (Nat.blt m 8) (cond (Nat.blt m 4) (cond (Nat.blt m 2) (cond (Nat.blt m 1) (cond (Nat.beq m 0) (false) (true)) (cond (Nat.beq m 1) (false) (true))) (cond (Nat.blt m 3) (cond (Nat.beq m 2) (false) (true)) (cond (Nat.beq m 3) (false) (true)))) (cond (Nat.blt m 6) (cond (Nat.blt m 5) (cond (Nat.beq m 4) (false) (true)) (cond (Nat.beq m 5) (false) (true))) (cond (Nat.blt m 7) (cond (Nat.beq m 6) (false) (true)) (cond (Nat.beq m 7) (false) (true))))) (cond (Nat.blt m 12) (cond (Nat.blt m 10) (cond (Nat.blt m 9) (cond (Nat.beq m 8) (false) (true)) (cond (Nat.beq m 9) (false) (true))) (cond (Nat.blt m 11) (cond (Nat.beq m 10) (false) (true)) (cond (Nat.beq m 11) (false) (true)))) (cond (Nat.blt m 14) (cond (Nat.blt m 13) (cond (Nat.beq m 12) (false) (true)) (cond (Nat.beq m 13) (false) (true))) (cond (Nat.blt m 15) (cond (Nat.beq m 14) (false) (true)) (cond (Nat.beq m 15) (false) (true)))))) (cond (Nat.blt m 24) (cond (Nat.blt m 20) (cond (Nat.blt m 18) (cond (Nat.blt m 17) (cond (Nat.beq m 16) (false) (true)) (cond (Nat.beq m 17) (false) (true))) (cond (Nat.blt m 19) (cond (Nat.beq m 18) (false) (true)) (cond (Nat.beq m 19) (false) (true)))) (cond (Nat.blt m 22) (cond (Nat.blt m 21) (cond (Nat.beq m 20) (false) (true)) (cond (Nat.beq m 21) (false) (true))) (cond (Nat.blt m 23) (cond (Nat.beq m 22) (false) (true)) (cond (Nat.beq m 23) (false) (true))))) (cond (Nat.blt m 28) (cond (Nat.blt m 26) (cond (Nat.blt m 25) (cond (Nat.beq m 24) (false) (true)) (cond (Nat.beq m 25) (false) (true))) (cond (Nat.blt m 27) (cond (Nat.beq m 26) (false) (true)) (cond (Nat.beq m 27) (false) (true)))) (cond (Nat.blt m 30) (cond (Nat.blt m 29) (cond (Nat.beq m 28) (false) (true)) (cond (Nat.beq m 29) (false) (true))) (cond (Nat.blt m 31) (cond (Nat.beq m 30) (false) (true)) (cond (Nat.blt m 32) (cond (Nat.beq m 31) (false) (true)) (cond (Nat.beq m 32) (false) (true)))))))) (cond (Nat.blt m 49) (cond (Nat.blt m 41) (cond (Nat.blt m 37) (cond (Nat.blt m 35) (cond (Nat.blt m 34) (cond (Nat.beq m 33) (false) (true)) (cond (Nat.beq m 34) (false) (true))) (cond (Nat.blt m 36) (cond (Nat.beq m 35) (false) (true)) (cond (Nat.beq m 36) (false) (true)))) (cond (Nat.blt m 39) (cond (Nat.blt m 38) (cond (Nat.beq m 37) (false) (true)) (cond (Nat.beq m 38) (false) (true))) (cond (Nat.blt m 40) (cond (Nat.beq m 39) (false) (true)) (cond (Nat.beq m 40) (false) (true))))) (cond (Nat.blt m 45) (cond (Nat.blt m 43) (cond (Nat.blt m 42) (cond (Nat.beq m 41) (false) (true)) (cond (Nat.beq m 42) (false) (true))) (cond (Nat.blt m 44) (cond (Nat.beq m 43) (false) (true)) (cond (Nat.beq m 44) (false) (true)))) (cond (Nat.blt m 47) (cond (Nat.blt m 46) (cond (Nat.beq m 45) (false) (true)) (cond (Nat.beq m 46) (false) (true))) (cond (Nat.blt m 48) (cond (Nat.beq m 47) (false) (true)) (cond (Nat.beq m 48) (false) (true)))))) (cond (Nat.blt m 57) (cond (Nat.blt m 53) (cond (Nat.blt m 51) (cond (Nat.blt m 50) (cond (Nat.beq m 49) (false) (true)) (cond (Nat.beq m 50) (false) (true))) (cond (Nat.blt m 52) (cond (Nat.beq m 51) (false) (true)) (cond (Nat.beq m 52) (false) (true)))) (cond (Nat.blt m 55) (cond (Nat.blt m 54) (cond (Nat.beq m 53) (false) (true)) (cond (Nat.beq m 54) (false) (true))) (cond (Nat.blt m 56) (cond (Nat.beq m 55) (false) (true)) (cond (Nat.beq m 56) (false) (true))))) (cond (Nat.blt m 61) (cond (Nat.blt m 59) (cond (Nat.blt m 58) (cond (Nat.beq m 57) (false) (true)) (cond (Nat.beq m 58) (false) (true))) (cond (Nat.blt m 60) (cond (Nat.beq m 59) (false) (true)) (cond (Nat.beq m 60) (false) (true)))) (cond (Nat.blt m 63) (cond (Nat.blt m 62) (cond (Nat.beq m 61) (false) (true)) (cond (Nat.beq m 62) (false) (true))) (cond (Nat.blt m 64) (cond (Nat.beq m 63) (false) (true)) (cond (Nat.blt m 65) (cond (Nat.beq m 64) (false) (true)) (cond (Nat.beq m 65) (false) (true))))))))) (cond (Nat.blt m 99) (cond (Nat.blt m 82) (cond (Nat.blt m 74) (cond (Nat.blt m 70) (cond (Nat.blt m 68) (cond (Nat.blt m 67) (cond (Nat.beq m 66) (false) (true)) (cond (Nat.beq m 67) (false) (true))) (cond (Nat.blt m 69) (cond (Nat.beq m 68) (false) (true)) (cond (Nat.beq m 69) (false) (true)))) (cond (Nat.blt m 72) (cond (Nat.blt m 71) (cond (Nat.beq m 70) (false) (true)) (cond (Nat.beq m 71) (false) (true))) (cond (Nat.blt m 73) (cond (Nat.beq m 72) (false) (true)) (cond (Nat.beq m 73) (false) (true))))) (cond (Nat.blt m 78) (cond (Nat.blt m 76) (cond (Nat.blt m 75) (cond (Nat.beq m 74) (false) (true)) (cond (Nat.beq m 75) (false) (true))) (cond (Nat.blt m 77) (cond (Nat.beq m 76) (false) (true)) (cond (Nat.beq m 77) (false) (true)))) (cond (Nat.blt m 80) (cond (Nat.blt m 79) (cond (Nat.beq m 78) (false) (true)) (cond (Nat.beq m 79) (false) (true))) (cond (Nat.blt m 81) (cond (Nat.beq m 80) (false) (true)) (cond (Nat.beq m 81) (false) (true)))))) (cond (Nat.blt m 90) (cond (Nat.blt m 86) (cond (Nat.blt m 84) (cond (Nat.blt m 83) (cond (Nat.beq m 82) (false) (true)) (cond (Nat.beq m 83) (false) (true))) (cond (Nat.blt m 85) (cond (Nat.beq m 84) (false) (true)) (cond (Nat.beq m 85) (false) (true)))) (cond (Nat.blt m 88) (cond (Nat.blt m 87) (cond (Nat.beq m 86) (false) (true)) (cond (Nat.beq m 87) (false) (true))) (cond (Nat.blt m 89) (cond (Nat.beq m 88) (false) (true)) (cond (Nat.beq m 89) (false) (true))))) (cond (Nat.blt m 94) (cond (Nat.blt m 92) (cond (Nat.blt m 91) (cond (Nat.beq m 90) (false) (true)) (cond (Nat.beq m 91) (false) (true))) (cond (Nat.blt m 93) (cond (Nat.beq m 92) (true) (true)) (cond (Nat.beq m 93) (true) (true)))) (cond (Nat.blt m 96) (cond (Nat.blt m 95) (cond (Nat.beq m 94) (true) (true)) (cond (Nat.beq m 95) (true) (true))) (cond (Nat.blt m 97) (cond (Nat.beq m 96) (true) (true)) (cond (Nat.blt m 98) (cond (Nat.beq m 97) (false) (true)) (cond (Nat.beq m 98) (false) (true)))))))) (cond (Nat.blt m 115) (cond (Nat.blt m 107) (cond (Nat.blt m 103) (cond (Nat.blt m 101) (cond (Nat.blt m 100) (cond (Nat.beq m 99) (false) (true)) (cond (Nat.beq m 100) (false) (true))) (cond (Nat.blt m 102) (cond (Nat.beq m 101) (false) (true)) (cond (Nat.beq m 102) (false) (true)))) (cond (Nat.blt m 105) (cond (Nat.blt m 104) (cond (Nat.beq m 103) (false) (true)) (cond (Nat.beq m 104) (false) (true))) (cond (Nat.blt m 106) (cond (Nat.beq m 105) (false) (true)) (cond (Nat.beq m 106) (false) (true))))) (cond (Nat.blt m 111) (cond (Nat.blt m 109) (cond (Nat.blt m 108) (cond (Nat.beq m 107) (false) (true)) (cond (Nat.beq m 108) (false) (true))) (cond (Nat.blt m 110) (cond (Nat.beq m 109) (false) (true)) (cond (Nat.beq m 110) (false) (true)))) (cond (Nat.blt m 113) (cond (Nat.blt m 112) (cond (Nat.beq m 111) (false) (true)) (cond (Nat.beq m 112) (false) (true))) (cond (Nat.blt m 114) (cond (Nat.beq m 113) (false) (true)) (cond (Nat.beq m 114) (false) (true)))))) (cond (Nat.blt m 123) (cond (Nat.blt m 119) (cond (Nat.blt m 117) (cond (Nat.blt m 116) (cond (Nat.beq m 115) (false) (true)) (cond (Nat.beq m 116) (false) (true))) (cond (Nat.blt m 118) (cond (Nat.beq m 117) (false) (true)) (cond (Nat.beq m 118) (false) (true)))) (cond (Nat.blt m 121) (cond (Nat.blt m 120) (cond (Nat.beq m 119) (false) (true)) (cond (Nat.beq m 120) (false) (true))) (cond (Nat.blt m 122) (cond (Nat.beq m 121) (false) (true)) (cond (Nat.beq m 122) (false) (true))))) (cond (Nat.blt m 127) (cond (Nat.blt m 125) (cond (Nat.blt m 124) (cond (Nat.beq m 123) (false) (true)) (cond (Nat.beq m 124) (false) (true))) (cond (Nat.blt m 126) (cond (Nat.beq m 125) (false) (true)) (cond (Nat.beq m 126) (false) (true)))) (cond (Nat.blt m 129) (cond (Nat.blt m 128) (cond (Nat.beq m 127) (false) (true)) (cond (Nat.beq m 128) (false) (true))) (cond (Nat.blt m 130) (cond (Nat.beq m 129) (false) (true)) (cond (Nat.blt m 131) (cond (Nat.beq m 130) (false) (true)) (cond (Nat.beq m 131) (false) (true)))))))))) (cond (Nat.blt m 198) (cond (Nat.blt m 165) (cond (Nat.blt m 148) (cond (Nat.blt m 140) (cond (Nat.blt m 136) (cond (Nat.blt m 134) (cond (Nat.blt m 133) (cond (Nat.beq m 132) (false) (true)) (cond (Nat.beq m 133) (false) (true))) (cond (Nat.blt m 135) (cond (Nat.beq m 134) (false) (true)) (cond (Nat.beq m 135) (false) (true)))) (cond (Nat.blt m 138) (cond (Nat.blt m 137) (cond (Nat.beq m 136) (false) (true)) (cond (Nat.beq m 137) (false) (true))) (cond (Nat.blt m 139) (cond (Nat.beq m 138) (false) (true)) (cond (Nat.beq m 139) (false) (true))))) (cond (Nat.blt m 144) (cond (Nat.blt m 142) (cond (Nat.blt m 141) (cond (Nat.beq m 140) (false) (true)) (cond (Nat.beq m 141) (false) (true))) (cond (Nat.blt m 143) (cond (Nat.beq m 142) (false) (true)) (cond (Nat.beq m 143) (false) (true)))) (cond (Nat.blt m 146) (cond (Nat.blt m 145) (cond (Nat.beq m 144) (false) (true)) (cond (Nat.beq m 145) (false) (true))) (cond (Nat.blt m 147) (cond (Nat.beq m 146) (false) (true)) (cond (Nat.beq m 147) (false) (true)))))) (cond (Nat.blt m 156) (cond (Nat.blt m 152) (cond (Nat.blt m 150) (cond (Nat.blt m 149) (cond (Nat.beq m 148) (false) (true)) (cond (Nat.beq m 149) (false) (true))) (cond (Nat.blt m 151) (cond (Nat.beq m 150) (false) (true)) (cond (Nat.beq m 151) (false) (true)))) (cond (Nat.blt m 154) (cond (Nat.blt m 153) (cond (Nat.beq m 152) (false) (true)) (cond (Nat.beq m 153) (true) (true))) (cond (Nat.blt m 155) (cond (Nat.beq m 154) (false) (true)) (cond (Nat.beq m 155) (false) (true))))) (cond (Nat.blt m 160) (cond (Nat.blt m 158) (cond (Nat.blt m 157) (cond (Nat.beq m 156) (false) (true)) (cond (Nat.beq m 157) (false) (true))) (cond (Nat.blt m 159) (cond (Nat.beq m 158) (false) (true)) (cond (Nat.beq m 159) (false) (true)))) (cond (Nat.blt m 162) (cond (Nat.blt m 161) (cond (Nat.beq m 160) (false) (true)) (cond (Nat.beq m 161) (false) (true))) (cond (Nat.blt m 163) (cond (Nat.beq m 162) (false) (true)) (cond (Nat.blt m 164) (cond (Nat.beq m 163) (false) (true)) (cond (Nat.beq m 164) (false) (true)))))))) (cond (Nat.blt m 181) (cond (Nat.blt m 173) (cond (Nat.blt m 169) (cond (Nat.blt m 167) (cond (Nat.blt m 166) (cond (Nat.beq m 165) (false) (true)) (cond (Nat.beq m 166) (false) (true))) (cond (Nat.blt m 168) (cond (Nat.beq m 167) (false) (true)) (cond (Nat.beq m 168) (false) (true)))) (cond (Nat.blt m 171) (cond (Nat.blt m 170) (cond (Nat.beq m 169) (true) (true)) (cond (Nat.beq m 170) (true) (true))) (cond (Nat.blt m 172) (cond (Nat.beq m 171) (false) (true)) (cond (Nat.beq m 172) (false) (true))))) (cond (Nat.blt m 177) (cond (Nat.blt m 175) (cond (Nat.blt m 174) (cond (Nat.beq m 173) (false) (true)) (cond (Nat.beq m 174) (false) (true))) (cond (Nat.blt m 176) (cond (Nat.beq m 175) (false) (true)) (cond (Nat.beq m 176) (false) (true)))) (cond (Nat.blt m 179) (cond (Nat.blt m 178) (cond (Nat.beq m 177) (false) (true)) (cond (Nat.beq m 178) (false) (true))) (cond (Nat.blt m 180) (cond (Nat.beq m 179) (false) (true)) (cond (Nat.beq m 180) (false) (true)))))) (cond (Nat.blt m 189) (cond (Nat.blt m 185) (cond (Nat.blt m 183) (cond (Nat.blt m 182) (cond (Nat.beq m 181) (false) (true)) (cond (Nat.beq m 182) (false) (true))) (cond (Nat.blt m 184) (cond (Nat.beq m 183) (false) (true)) (cond (Nat.beq m 184) (false) (true)))) (cond (Nat.blt m 187) (cond (Nat.blt m 186) (cond (Nat.beq m 185) (false) (true)) (cond (Nat.beq m 186) (false) (true))) (cond (Nat.blt m 188) (cond (Nat.beq m 187) (false) (true)) (cond (Nat.beq m 188) (false) (true))))) (cond (Nat.blt m 193) (cond (Nat.blt m 191) (cond (Nat.blt m 190) (cond (Nat.beq m 189) (false) (true)) (cond (Nat.beq m 190) (false) (true))) (cond (Nat.blt m 192) (cond (Nat.beq m 191) (false) (true)) (cond (Nat.beq m 192) (false) (true)))) (cond (Nat.blt m 195) (cond (Nat.blt m 194) (cond (Nat.beq m 193) (false) (true)) (cond (Nat.beq m 194) (false) (true))) (cond (Nat.blt m 196) (cond (Nat.beq m 195) (false) (true)) (cond (Nat.blt m 197) (cond (Nat.beq m 196) (false) (true)) (cond (Nat.beq m 197) (false) (true))))))))) (cond (Nat.blt m 231) (cond (Nat.blt m 214) (cond (Nat.blt m 206) (cond (Nat.blt m 202) (cond (Nat.blt m 200) (cond (Nat.blt m 199) (cond (Nat.beq m 198) (false) (true)) (cond (Nat.beq m 199) (false) (true))) (cond (Nat.blt m 201) (cond (Nat.beq m 200) (false) (true)) (cond (Nat.beq m 201) (false) (true)))) (cond (Nat.blt m 204) (cond (Nat.blt m 203) (cond (Nat.beq m 202) (false) (true)) (cond (Nat.beq m 203) (false) (true))) (cond (Nat.blt m 205) (cond (Nat.beq m 204) (false) (true)) (cond (Nat.beq m 205) (false) (true))))) (cond (Nat.blt m 210) (cond (Nat.blt m 208) (cond (Nat.blt m 207) (cond (Nat.beq m 206) (false) (true)) (cond (Nat.beq m 207) (false) (true))) (cond (Nat.blt m 209) (cond (Nat.beq m 208) (false) (true)) (cond (Nat.beq m 209) (false) (true)))) (cond (Nat.blt m 212) (cond (Nat.blt m 211) (cond (Nat.beq m 210) (false) (true)) (cond (Nat.beq m 211) (false) (true))) (cond (Nat.blt m 213) (cond (Nat.beq m 212) (false) (true)) (cond (Nat.beq m 213) (false) (true)))))) (cond (Nat.blt m 222) (cond (Nat.blt m 218) (cond (Nat.blt m 216) (cond (Nat.blt m 215) (cond (Nat.beq m 214) (false) (true)) (cond (Nat.beq m 215) (false) (true))) (cond (Nat.blt m 217) (cond (Nat.beq m 216) (false) (true)) (cond (Nat.beq m 217) (false) (true)))) (cond (Nat.blt m 220) (cond (Nat.blt m 219) (cond (Nat.beq m 218) (false) (true)) (cond (Nat.beq m 219) (false) (true))) (cond (Nat.blt m 221) (cond (Nat.beq m 220) (false) (true)) (cond (Nat.beq m 221) (false) (true))))) (cond (Nat.blt m 226) (cond (Nat.blt m 224) (cond (Nat.blt m 223) (cond (Nat.beq m 222) (false) (true)) (cond (Nat.beq m 223) (false) (true))) (cond (Nat.blt m 225) (cond (Nat.beq m 224) (false) (true)) (cond (Nat.beq m 225) (false) (true)))) (cond (Nat.blt m 228) (cond (Nat.blt m 227) (cond (Nat.beq m 226) (false) (true)) (cond (Nat.beq m 227) (false) (true))) (cond (Nat.blt m 229) (cond (Nat.beq m 228) (false) (true)) (cond (Nat.blt m 230) (cond (Nat.beq m 229) (false) (true)) (cond (Nat.beq m 230) (false) (true)))))))) (cond (Nat.blt m 247) (cond (Nat.blt m 239) (cond (Nat.blt m 235) (cond (Nat.blt m 233) (cond (Nat.blt m 232) (cond (Nat.beq m 231) (false) (true)) (cond (Nat.beq m 232) (false) (true))) (cond (Nat.blt m 234) (cond (Nat.beq m 233) (false) (true)) (cond (Nat.beq m 234) (false) (true)))) (cond (Nat.blt m 237) (cond (Nat.blt m 236) (cond (Nat.beq m 235) (false) (true)) (cond (Nat.beq m 236) (false) (true))) (cond (Nat.blt m 238) (cond (Nat.beq m 237) (false) (true)) (cond (Nat.beq m 238) (false) (true))))) (cond (Nat.blt m 243) (cond (Nat.blt m 241) (cond (Nat.blt m 240) (cond (Nat.beq m 239) (false) (true)) (cond (Nat.beq m 240) (false) (true))) (cond (Nat.blt m 242) (cond (Nat.beq m 241) (false) (true)) (cond (Nat.beq m 242) (false) (true)))) (cond (Nat.blt m 245) (cond (Nat.blt m 244) (cond (Nat.beq m 243) (false) (true)) (cond (Nat.beq m 244) (false) (true))) (cond (Nat.blt m 246) (cond (Nat.beq m 245) (false) (true)) (cond (Nat.beq m 246) (false) (true)))))) (cond (Nat.blt m 255) (cond (Nat.blt m 251) (cond (Nat.blt m 249) (cond (Nat.blt m 248) (cond (Nat.beq m 247) (false) (true)) (cond (Nat.beq m 248) (false) (true))) (cond (Nat.blt m 250) (cond (Nat.beq m 249) (false) (true)) (cond (Nat.beq m 250) (false) (true)))) (cond (Nat.blt m 253) (cond (Nat.blt m 252) (cond (Nat.beq m 251) (false) (true)) (cond (Nat.beq m 252) (false) (true))) (cond (Nat.blt m 254) (cond (Nat.beq m 253) (false) (true)) (cond (Nat.beq m 254) (false) (true))))) (cond (Nat.blt m 259) (cond (Nat.blt m 257) (cond (Nat.blt m 256) (cond (Nat.beq m 255) (false) (true)) (cond (Nat.beq m 256) (false) (true))) (cond (Nat.blt m 258) (cond (Nat.beq m 257) (false) (true)) (cond (Nat.beq m 258) (false) (true)))) (cond (Nat.blt m 261) (cond (Nat.blt m 260) (cond (Nat.beq m 259) (false) (true)) (cond (Nat.beq m 260) (false) (true))) (cond (Nat.blt m 262) (cond (Nat.beq m 261) (false) (true)) (cond (Nat.blt m 263) (cond (Nat.beq m 262) (false) (true)) (cond (Nat.beq m 263) (false) (true))))))))))
def cdL_law : List Jvm.ClassFile.Instr := [.new 7, .dup, .invokespecial 109, .astore 1, .new 8, .dup, .invokespecial 152, .astore 2, .iconst (0), .istore 3, .iload 3, .aload 0, .arraylength, .iconst (6), .isub, .if_icmp .gt (872), .aload 0, .iload 3, .iaload, .iconst (63), .iand, .tableswitch (870) (0) (35) #[22, 79, 96, 103, 130, 147, 182, 199, 236, 263, 290, 307, 324, 341, 348, 385, 422, 429, 456, 483, 500, 517, 534, 561, 578, 603, 650, 687, 704, 721, 738, 765, 782, 809, 836, 853], .aload 1, .aload 0, .iload 3, .iconst (1), .iadd, .iaload, .aload 0, .iload 3, .iconst (2), .iadd, .iaload, .aload 0, .iload 3, .iconst (3), .iadd, .iaload, .aload 0, .iload 3, .iconst (4), .iadd, .iaload, .aload 0, .iload 3, .iconst (5), .iadd, .iaload, .invokevirtual 110, .aload 2, .aload 0, .iload 3, .iconst (1), .iadd, .iaload, .aload 0, .iload 3, .iconst (2), .iadd, .iaload, .aload 0, .iload 3, .iconst (3), .iadd, .iaload, .aload 0, .iload 3, .iconst (4), .iadd, .iaload, .aload 0, .iload 3, .iconst (5), .iadd, .iaload, .invokevirtual 155, .if_icmp .eq (870), .iconst (0), .ireturn, .aload 1, .aload 0, .iload 3, .iconst (1), .iadd, .iaload, .invokevirtual 112, .aload 2, .aload 0, .iload 3, .iconst (1), .iadd, .iaload, .invokevirtual 157, .if_icmp .eq (870), .iconst (0), .ireturn, .aload 1, .invokevirtual 113, .aload 2, .invokevirtual 176, .if_icmp .eq (870), .iconst (0), .ireturn, .aload 1, .aload 0, .iload 3, .iconst (1), .iadd, .iaload, .aload 0, .iload 3, .iconst (2), .iadd, .iaload, .invokevirtual 114, .aload 2, .aload 0, .iload 3, .iconst (1), .iadd, .iaload, .aload 0, .iload 3, .iconst (2), .iadd, .iaload, .invokevirtual 179, .if_icmp .eq (870), .iconst (0), .ireturn, .aload 1, .aload 0, .iload 3, .iconst (1), .iadd, .iaload, .invokevirtual 115, .aload 2, .aload 0, .iload 3, .iconst (1), .iadd, .iaload, .invokevirtual 223, .if_icmp .eq (870), .iconst (0), .ireturn, .aload 1, .aload 0, .iload 3, .iconst (1), .iadd, .iaload, .ifCond .eq (156), .iconst (1), .goto (157), .iconst (0), .aload 0, .iload 3, .iconst (2), .iadd, .iaload, .invokevirtual 116, .aload 2, .aload 0, .iload 3, .iconst (1), .iadd, .iaload, .ifCond .eq (172), .iconst (1), .goto (173), .iconst (0), .aload 0, .iload 3, .iconst (2), .iadd, .iaload, .invokevirtual 216, .if_icmp .eq (870), .iconst (0), .ireturn, .aload 1, .aload 0, .iload 3, .iconst (1), .iadd, .iaload, .invokevirtual 117, .aload 2, .aload 0, .iload 3, .iconst (1), .iadd, .iaload, .invokevirtual 217, .if_icmp .eq (870), .iconst (0), .ireturn, .aload 1, .aload 0, .iload 3, .iconst (1), .iadd, .iaload, .aload 0, .iload 3, .iconst (2), .iadd, .iaload, .aload 0, .iload 3, .iconst (3), .iadd, .iaload, .invokevirtual 118, .aload 2, .aload 0, .iload 3, .iconst (1), .iadd, .iaload, .aload 0, .iload 3, .iconst (2), .iadd, .iaload, .aload 0, .iload 3, .iconst (3), .iadd, .iaload, .invokevirtual 218, .if_icmp .eq (870), .iconst (0), .ireturn, .aload 1, .aload 0, .iload 3, .iconst (1), .iadd, .iaload, .aload 0, .iload 3, .iconst (2), .iadd, .iaload, .invokevirtual 119, .aload 2, .aload 0, .iload 3, .iconst (1), .iadd, .iaload, .aload 0, .iload 3, .iconst (2), .iadd, .iaload, .invokevirtual 219, .if_icmp .eq (870), .iconst (0), .ireturn, .aload 1, .aload 0, .iload 3, .iconst (1), .iadd, .iaload, .aload 0, .iload 3, .iconst (2), .iadd, .iaload, .invokevirtual 120, .aload 2, .aload 0, .iload 3, .iconst (1), .iadd, .iaload, .aload 0, .iload 3, .iconst (2), .iadd, .iaload, .invokevirtual 220, .if_icmp .eq (870), .iconst (0), .ireturn, .aload 1, .aload 0, .iload 3, .iconst (1), .iadd, .iaload, .invokevirtual 121, .aload 2, .aload 0, .iload 3, .iconst (1), .iadd, .iaload, .invokevirtual 221, .if_icmp .eq (870), .iconst (0), .ireturn, .aload 1, .aload 0, .iload 3, .iconst (1), .iadd, .iaload, .invokevirtual 122, .aload 2, .aload 0, .iload 3, .iconst (1), .iadd, .iaload, .invokevirtual 222, .if_icmp .eq (870), .iconst (0), .ireturn, .aload 1, .aload 0, .iload 3, .iconst (1), .iadd, .iaload, .invokevirtual 124, .aload 2, .aload 0, .iload 3, .iconst (1), .iadd, .iaload, .invokevirtual 224, .if_icmp .eq (870), .iconst (0), .ireturn, .aload 1, .invokevirtual 125, .aload 2, .invokevirtual 225, .if_icmp .eq (870), .iconst (0), .ireturn, .aload 1, .aload 0, .iload 3, .iconst (1), .iadd, .iaload, .aload 0, .iload 3, .iconst (2), .iadd, .iaload, .aload 0, .iload 3, .iconst (3), .iadd, .iaload, .invokevirtual 126, .aload 2, .aload 0, .iload 3, .iconst (1), .iadd, .iaload, .aload 0, .iload 3, .iconst (2), .iadd, .iaload, .aload 0, .iload 3, .iconst (3), .iadd, .iaload, .invokevirtual 226, .if_icmp .eq (870), .iconst (0), .ireturn, .aload 1, .aload 0, .iload 3, .iconst (1), .iadd, .iaload, .aload 0, .iload 3, .iconst (2), .iadd, .iaload, .aload 0, .iload 3, .iconst (3), .iadd, .iaload, .invokevirtual 127, .aload 2, .aload 0, .iload 3, .iconst (1), .iadd, .iaload, .aload 0, .iload 3, .iconst (2), .iadd, .iaload, .aload 0, .iload 3, .iconst (3), .iadd, .iaload, .invokevirtual 227, .if_icmp .eq (870), .iconst (0), .ireturn, .aload 1, .invokevirtual 128, .aload 2, .invokevirtual 183, .if_icmp .eq (870), .iconst (0), .ireturn, .aload 1, .aload 0, .iload 3, .iconst (1), .iadd, .iaload, .aload 0, .iload 3, .iconst (2), .iadd, .iaload, .invokevirtual 129, .aload 2, .aload 0, .iload 3, .iconst (1), .iadd, .iaload, .aload 0, .iload 3, .iconst (2), .iadd, .iaload, .invokevirtual 228, .if_icmp .eq (870), .iconst (0), .ireturn, .aload 1, .aload 0, .iload 3, .iconst (1), .iadd, .iaload, .aload 0, .iload 3, .iconst (2), .iadd, .iaload, .invokevirtual 130, .aload 2, .aload 0, .iload 3, .iconst (1), .iadd, .iaload, .aload 0, .iload 3, .iconst (2), .iadd, .iaload, .invokevirtual 229, .if_icmp .eq (870), .iconst (0), .ireturn, .aload 1, .aload 0, .iload 3, .iconst (1), .iadd, .iaload, .invokevirtual 131, .aload 2, .aload 0, .iload 3, .iconst (1), .iadd, .iaload, .invokevirtual 230, .if_icmp .eq (870), .iconst (0), .ireturn, .aload 1, .aload 0, .iload 3, .iconst (1), .iadd, .iaload, .invokevirtual 132, .aload 2, .aload 0, .iload 3, .iconst (1), .iadd, .iaload, .invokevirtual 231, .if_icmp .eq (870), .iconst (0), .ireturn, .aload 1, .aload 0, .iload 3, .iconst (1), .iadd, .iaload, .invokevirtual 133, .aload 2, .aload 0, .iload 3, .iconst (1), .iadd, .iaload, .invokevirtual 232, .if_icmp .eq (870), .iconst (0), .ireturn, .aload 1, .aload 0, .iload 3, .iconst (1), .iadd, .iaload, .aload 0, .iload 3, .iconst (2), .iadd, .iaload, .invokevirtual 134, .aload 2, .aload 0, .iload 3, .iconst (1), .iadd, .iaload, .aload 0, .iload 3, .iconst (2), .iadd, .iaload, .invokevirtual 233, .if_icmp .eq (870), .iconst (0), .ireturn, .aload 1, .aload 0, .iload 3, .iconst (1), .iadd, .iaload, .invokevirtual 135, .aload 2, .aload 0, .iload 3, .iconst (1), .iadd, .iaload, .invokevirtual 234, .if_icmp .eq (870), .iconst (0), .ireturn, .aload 1, .aload 0, .iload 3, .iconst (1), .iadd, .iaload, .ifCond .eq (587), .iconst (1), .goto (588), .iconst (0), .invokevirtual 136, .aload 2, .aload 0, .iload 3, .iconst (1), .iadd, .iaload, .ifCond .eq (598), .iconst (1), .goto (599), .iconst (0), .invokevirtual 238, .if_icmp .eq (870), .iconst (0), .ireturn, .aload 1, .aload 0, .iload 3, .iconst (1), .iadd, .iaload, .aload 0, .iload 3, .iconst (2), .iadd, .iaload, .aload 0, .iload 3, .iconst (3), .iadd, .iaload, .aload 0, .iload 3, .iconst (4), .iadd, .iaload, .invokevirtual 137, .aload 2, .aload 0, .iload 3, .iconst (1), .iadd, .iaload, .aload 0, .iload 3, .iconst (2), .iadd, .iaload, .aload 0, .iload 3, .iconst (3), .iadd, .iaload, .aload 0, .iload 3, .iconst (4), .iadd, .iaload, .invokevirtual 242, .if_icmp .eq (870), .iconst (0), .ireturn, .aload 1, .aload 0, .iload 3, .iconst (1), .iadd, .iaload, .aload 0, .iload 3, .iconst (2), .iadd, .iaload, .aload 0, .iload 3, .iconst (3), .iadd, .iaload, .invokevirtual 138, .aload 2, .aload 0, .iload 3, .iconst (1), .iadd, .iaload, .aload 0, .iload 3, .iconst (2), .iadd, .iaload, .aload 0, .iload 3, .iconst (3), .iadd, .iaload, .invokevirtual 243, .if_icmp .eq (870), .iconst (0), .ireturn, .aload 1, .aload 0, .iload 3, .iconst (1), .iadd, .iaload, .invokevirtual 139, .aload 2, .aload 0, .iload 3, .iconst (1), .iadd, .iaload, .invokevirtual 244, .if_icmp .eq (870), .iconst (0), .ireturn, .aload 1, .aload 0, .iload 3, .iconst (1), .iadd, .iaload, .invokevirtual 140, .aload 2, .aload 0, .iload 3, .iconst (1), .iadd, .iaload, .invokevirtual 245, .if_icmp .eq (870), .iconst (0), .ireturn, .aload 1, .aload 0, .iload 3, .iconst (1), .iadd, .iaload, .invokevirtual 141, .aload 2, .aload 0, .iload 3, .iconst (1), .iadd, .iaload, .invokevirtual 246, .if_icmp .eq (870), .iconst (0), .ireturn, .aload 1, .aload 0, .iload 3, .iconst (1), .iadd, .iaload, .aload 0, .iload 3, .iconst (2), .iadd, .iaload, .invokevirtual 142, .aload 2, .aload 0, .iload 3, .iconst (1), .iadd, .iaload, .aload 0, .iload 3, .iconst (2), .iadd, .iaload, .invokevirtual 253, .if_icmp .eq (870), .iconst (0), .ireturn, .aload 1, .aload 0, .iload 3, .iconst (1), .iadd, .iaload, .invokevirtual 143, .aload 2, .aload 0, .iload 3, .iconst (1), .iadd, .iaload, .invokevirtual 254, .if_icmp .eq (870), .iconst (0), .ireturn, .aload 1, .aload 0, .iload 3, .iconst (1), .iadd, .iaload, .aload 0, .iload 3, .iconst (2), .iadd, .iaload, .invokevirtual 144, .aload 2, .aload 0, .iload 3, .iconst (1), .iadd, .iaload, .aload 0, .iload 3, .iconst (2), .iadd, .iaload, .invokevirtual 259, .if_icmp .eq (870), .iconst (0), .ireturn, .aload 1, .aload 0, .iload 3, .iconst (1), .iadd, .iaload, .aload 0, .iload 3, .iconst (2), .iadd, .iaload, .invokevirtual 145, .aload 2, .aload 0, .iload 3, .iconst (1), .iadd, .iaload, .aload 0, .iload 3, .iconst (2), .iadd, .iaload, .invokevirtual 260, .if_icmp .eq (870), .iconst (0), .ireturn, .aload 1, .aload 0, .iload 3, .iconst (1), .iadd, .iaload, .invokevirtual 146, .aload 2, .aload 0, .iload 3, .iconst (1), .iadd, .iaload, .invokevirtual 261, .if_icmp .eq (870), .iconst (0), .ireturn, .aload 1, .aload 0, .iload 3, .iconst (1), .iadd, .iaload, .invokevirtual 147, .aload 2, .aload 0, .iload 3, .iconst (1), .iadd, .iaload, .invokevirtual 262, .if_icmp .eq (870), .iconst (0), .ireturn, .iinc 3 6, .goto (10), .iconst (1), .ireturn]
abbrev mL_law : Nat := 0
def cdX0_init : List Jvm.ClassFile.Instr := [.aload 0, .dneg, .aload 0, .iconst (6), .newarray .int, .putfield 5, .aload 0, .iconst (6), .newarray .int, .putfield 6, .aload 0, .iconst (84), .newarray .int, .putfield 7, .aload 0, .iconst (3), .putfield 2, .aload 0, .iconst (3), .putfield 3, .aload 0, .iconst (20), .putfield 4, .return_]
abbrev mX0_init : Nat := 1
def cdX0_clear : List Jvm.ClassFile.Instr := [.aload 0, .iconst (0), .putfield 0, .aload 0, .iconst (0), .putfield 1, .aload 0, .iconst (3), .putfield 2, .aload 0, .iconst (3), .putfield 3, .aload 0, .iconst (20), .putfield 4, .aload 0, .getfield 7, .iconst (0), .invokestatic 263, .return_]
abbrev mX0_clear : Nat := 2
def cdX0_take : List Jvm.ClassFile.Instr := [.aload 0, .aload 1, .getfield 0, .putfield 0, .aload 0, .aload 1, .getfield 1, .putfield 1, .aload 0, .aload 1, .getfield 2, .putfield 2, .aload 0, .aload 1, .getfield 3, .putfield 3, .aload 0, .aload 1, .getfield 4, .putfield 4, .aload 1, .getfield 5, .iconst (0), .aload 0, .getfield 5, .iconst (0), .iconst (6), .invokestatic 99, .aload 1, .getfield 6, .iconst (0), .aload 0, .getfield 6, .iconst (0), .iconst (6), .invokestatic 99, .aload 1, .getfield 7, .iconst (0), .aload 0, .getfield 7, .iconst (0), .iconst (84), .invokestatic 99, .return_]
abbrev mX0_take : Nat := 3
def cdX0_hasKey : List Jvm.ClassFile.Instr := [.iload 1, .ifCond .lt (8), .iload 1, .aload 0, .getfield 0, .if_icmp .ge (8), .iconst (1), .goto (9), .iconst (0), .ireturn]
abbrev mX0_hasKey : Nat := 4
def cdX0_hasImage : List Jvm.ClassFile.Instr := [.iload 1, .ifCond .lt (8), .iload 1, .aload 0, .getfield 1, .if_icmp .ge (8), .iconst (1), .goto (9), .iconst (0), .ireturn]
abbrev mX0_hasImage : Nat := 5
def cdX0_hasRecoveryImage : List Jvm.ClassFile.Instr := [.aload 0, .iload 1, .invokevirtual 5, .ifCond .eq (15), .aload 0, .getfield 7, .iload 1, .iconst (14), .imul, .iconst (1), .iadd, .invokestatic 97, .ifCond .ne (15), .iconst (1), .goto (16), .iconst (0), .ireturn]
abbrev mX0_hasRecoveryImage : Nat := 6
def cdX0_addKey : List Jvm.ClassFile.Instr := [.aload 0, .getfield 5, .aload 0, .getfield 0, .iload 1, .invokestatic 98, .aload 0, .getfield 6, .aload 0, .getfield 0, .iload 2, .invokestatic 98, .aload 0, .dup, .getfield 0, .iconst (1), .iadd, .putfield 0, .return_]
abbrev mX0_addKey : Nat := 7
def cdX0_addImage : List Jvm.ClassFile.Instr := [.aload 0, .getfield 1, .iconst (14), .imul, .istore 5, .iconst (0), .istore 6, .iload 4, .iconst (1), .isub, .istore 7, .iload 7, .ifCond .lt (39), .aload 0, .getfield 7, .iload 5, .iconst (7), .iadd, .iconst (2), .iload 7, .imul, .iadd, .iload 6, .invokestatic 98, .aload 0, .getfield 7, .iload 5, .iconst (6), .iadd, .iconst (2), .iload 7, .imul, .iadd, .invokestatic 97, .iload 6, .invokestatic 9, .istore 6, .iinc 7 (-1), .goto (11), .aload 0, .getfield 7, .iload 5, .iload 1, .iconst (1), .iadd, .invokestatic 98, .aload 0, .getfield 7, .iload 5, .iconst (1), .iadd, .iload 2, .invokestatic 98, .aload 0, .getfield 7, .iload 5, .iconst (2), .iadd, .iload 3, .invokestatic 98, .aload 0, .getfield 7, .iload 5, .iconst (3), .iadd, .iload 4, .invokestatic 98, .aload 0, .getfield 7, .iload 5, .iconst (4), .iadd, .iload 6, .invokestatic 98, .aload 0, .getfield 7, .iload 5, .iconst (5), .iadd, .aload 0, .aload 0, .getfield 7, .iload 5, .invokevirtual 10, .invokestatic 98, .aload 0, .dup, .getfield 1, .iconst (1), .iadd, .putfield 1, .return_]
abbrev mX0_addImage : Nat := 8
def cdX0_digest : List Jvm.ClassFile.Instr := [.iload 0, .iconst (527), .iadd, .iconst (31), .imul, .iload 1, .iadd, .iconst (65535), .iand, .ireturn]
abbrev mX0_digest : Nat := 9
def cdX0_sign : List Jvm.ClassFile.Instr := [.aload 0, .getfield 5, .aload 1, .iload 2, .iconst (1), .iadd, .invokestatic 97, .invokestatic 97, .iconst (7), .iadd, .istore 3, .iconst (0), .istore 4, .iload 4, .iconst (5), .if_icmp .ge (30), .iload 3, .iconst (31), .imul, .aload 1, .iload 2, .iload 4, .iadd, .invokestatic 97, .iadd, .iconst (65535), .iand, .istore 3, .iinc 4 1, .goto (13), .iload 3, .ireturn]
abbrev mX0_sign : Nat := 10
def cdX1_init : List Jvm.ClassFile.Instr := [.aload 0, .dneg, .aload 0, .aload 1, .putfield 100, .aload 0, .aload 2, .putfield 101, .aload 0, .new 2, .dup, .aload 1, .invokespecial 18, .putfield 102, .aload 0, .iconst (31), .newarray .int, .putfield 103, .return_]
abbrev mX1_init : Nat := 11
def cdX1_answer : List Jvm.ClassFile.Instr := [.iload 2, .ifCond .lt (5), .iload 2, .iconst (5), .if_icmp .le (7), .iconst (-1), .ireturn, .aload 0, .iload 3, .i2l, .putfield 104, .aload 0, .iconst (0), .putfield 108, .aload 0, .iconst (0), .putfield 109, .aload 0, .iconst (0), .putfield 110, .aload 0, .iconst (0), .putfield 111, .aload 0, .getfield 103, .iconst (0), .invokestatic 263, .aload 0, .getfield 102, .aload 0, .getfield 101, .invokevirtual 22, .iconst (0), .istore 4, .iload 4, .iload 1, .if_icmp .ge (47), .aload 0, .invokevirtual 14, .aload 0, .getfield 105, .iconst (-1), .if_icmp .eq (45), .aload 0, .invokevirtual 15, .iinc 4 1, .goto (34), .iload 2, .tableswitch (66) (0) (4) #[49, 52, 55, 58, 61], .aload 0, .getfield 108, .ireturn, .aload 0, .getfield 109, .ireturn, .aload 0, .getfield 110, .ireturn, .aload 0, .getfield 111, .ireturn, .aload 0, .getfield 102, .iconst (76), .invokevirtual 19, .ireturn, .aload 0, .aload 0, .getfield 102, .iconst (76), .invokevirtual 19, .invokevirtual 13, .ireturn]
abbrev mX1_answer : Nat := 12
def cdX1_startsBelow : List Jvm.ClassFile.Instr := [.iconst (0), .istore 2, .iconst (0), .istore 3, .iload 3, .iload 1, .if_icmp .ge (16), .iload 2, .aload 0, .getfield 103, .iload 3, .invokestatic 97, .iadd, .istore 2, .iinc 3 1, .goto (4), .iload 2, .ireturn]
abbrev mX1_startsBelow : Nat := 13
def cdX1_drawDeed : List Jvm.ClassFile.Instr := [.aload 0, .iconst (0), .putfield 106, .aload 0, .iconst (0), .putfield 107, .aload 0, .getfield 102, .invokevirtual 27, .ifCond .ne (23), .aload 0, .iconst (0), .putfield 105, .aload 0, .aload 0, .iconst (4), .invokevirtual 17, .ifCond .ne (20), .iconst (1), .goto (21), .iconst (0), .putfield 106, .return_, .aload 0, .iconst (8), .invokevirtual 17, .tableswitch (69) (0) (6) #[27, 27, 31, 31, 47, 58, 65], .aload 0, .iconst (1), .putfield 105, .goto (72), .aload 0, .iconst (2), .putfield 105, .aload 0, .aload 0, .iconst (2), .invokevirtual 17, .putfield 106, .aload 0, .aload 0, .aload 0, .getfield 100, .getfield 1, .invokevirtual 17, .putfield 107, .goto (72), .aload 0, .iconst (3), .putfield 105, .aload 0, .aload 0, .aload 0, .getfield 100, .getfield 1, .invokevirtual 17, .putfield 107, .goto (72), .aload 0, .iconst (-1), .putfield 105, .aload 0, .getfield 102, .invokevirtual 28, .goto (72), .aload 0, .iconst (5), .putfield 105, .goto (72), .aload 0, .iconst (6), .putfield 105, .return_]
abbrev mX1_drawDeed : Nat := 14
def cdX1_attempt : List Jvm.ClassFile.Instr := [.aload 0, .iconst (20), .invokevirtual 17, .istore 1, .aload 0, .getfield 102, .aload 0, .getfield 105, .aload 0, .getfield 106, .aload 0, .getfield 107, .invokevirtual 46, .ifCond .ne (15), .return_, .aload 0, .getfield 102, .aload 0, .getfield 105, .aload 0, .getfield 106, .aload 0, .getfield 107, .iload 1, .iconst (19), .if_icmp .ne (28), .iconst (-1), .goto (31), .iconst (3), .iload 1, .imul, .invokevirtual 47, .istore 2, .iload 2, .iconst (-2), .if_icmp .ne (43), .aload 0, .dup, .getfield 111, .iconst (1), .iadd, .putfield 111, .goto (49), .aload 0, .getfield 105, .ifCond .ne (49), .aload 0, .iload 2, .invokevirtual 16, .return_]
abbrev mX1_attempt : Nat := 15
def cdX1_tally : List Jvm.ClassFile.Instr := [.iload 1, .iconst (3), .if_icmp .ne (10), .aload 0, .dup, .getfield 110, .iconst (1), .iadd, .putfield 110, .return_, .aload 0, .dup, .getfield 108, .iconst (1), .iadd, .putfield 108, .iload 1, .iconst (2), .if_icmp .ne (26), .aload 0, .dup, .getfield 109, .iconst (1), .iadd, .putfield 109, .goto (41), .aload 0, .getfield 102, .iload 1, .invokevirtual 41, .istore 2, .aload 0, .getfield 103, .iload 2, .aload 0, .getfield 103, .iload 2, .invokestatic 97, .iconst (1), .iadd, .invokestatic 98, .return_]
abbrev mX1_tally : Nat := 16
def cdX1_draw : List Jvm.ClassFile.Instr := [.aload 0, .aload 0, .getfield 104, .jsr_w (1103515245), .lmul, .jsr_w (12345), .ladd, .jsr_w (2147483648), .lrem, .putfield 104, .iload 1, .ifCond .le (21), .aload 0, .getfield 104, .jsr_w (65536), .ldiv, .iload 1, .i2l, .lrem, .l2i, .goto (22), .iconst (0), .ireturn]
abbrev mX1_draw : Nat := 17
def cdX2_init : List Jvm.ClassFile.Instr := [.aload 0, .dneg, .aload 0, .aload 1, .putfield 200, .aload 0, .iconst (107), .newarray .int, .putfield 201, .iconst (56), .istore 2, .iload 2, .iconst (76), .if_icmp .ge (20), .aload 0, .iload 2, .iconst (255), .invokevirtual 20, .iinc 2 1, .goto (11), .aload 0, .iconst (78), .iconst (-1), .invokevirtual 20, .return_]
abbrev mX2_init : Nat := 18
def cdX2_cell : List Jvm.ClassFile.Instr := [.iload 1, .ifCond .lt (12), .iload 1, .aload 0, .getfield 201, .arraylength, .if_icmp .ge (12), .aload 0, .getfield 201, .iload 1, .iaload, .goto (13), .iconst (0), .ireturn]
abbrev mX2_cell : Nat := 19
def cdX2_setCell : List Jvm.ClassFile.Instr := [.iload 1, .ifCond .lt (12), .iload 1, .aload 0, .getfield 201, .arraylength, .if_icmp .ge (12), .aload 0, .getfield 201, .iload 1, .iload 2, .iastore, .return_]
abbrev mX2_setCell : Nat := 20
def cdX2_turnBit : List Jvm.ClassFile.Instr := [.aload 0, .iload 1, .aload 0, .iload 1, .invokevirtual 19, .iconst (1), .iload 2, .ishl, .ixor, .invokevirtual 20, .aload 0, .iload 1, .invokevirtual 19, .ireturn]
abbrev mX2_turnBit : Nat := 21
def cdX2_takeFrom : List Jvm.ClassFile.Instr := [.aload 1, .getfield 201, .iconst (0), .aload 0, .getfield 201, .iconst (0), .iconst (107), .invokestatic 99, .return_]
abbrev mX2_takeFrom : Nat := 22
def cdX2_saveTo : List Jvm.ClassFile.Instr := [.aload 0, .getfield 201, .iconst (0), .aload 1, .iload 2, .iconst (107), .invokestatic 99, .return_]
abbrev mX2_saveTo : Nat := 23
def cdX2_loadFrom : List Jvm.ClassFile.Instr := [.aload 1, .iload 2, .aload 0, .getfield 201, .iconst (0), .iconst (107), .invokestatic 99, .return_]
abbrev mX2_loadFrom : Nat := 24
def cdX2_putImage : List Jvm.ClassFile.Instr := [.aload 0, .getfield 200, .getfield 7, .iload 2, .iconst (14), .imul, .aload 0, .getfield 201, .iload 1, .iconst (14), .imul, .iconst (14), .invokestatic 99, .return_]
abbrev mX2_putImage : Nat := 25
def cdX2_holdsImage : List Jvm.ClassFile.Instr := [.iconst (0), .istore 3, .iload 3, .iconst (14), .if_icmp .ge (26), .aload 0, .iload 1, .iconst (14), .imul, .iload 3, .iadd, .invokevirtual 19, .aload 0, .getfield 200, .getfield 7, .iload 2, .iconst (14), .imul, .iload 3, .iadd, .invokestatic 97, .if_icmp .eq (24), .iconst (0), .ireturn, .iinc 3 1, .goto (2), .iconst (1), .ireturn]
abbrev mX2_holdsImage : Nat := 26
def cdX2_isOn : List Jvm.ClassFile.Instr := [.aload 0, .iconst (78), .invokevirtual 19, .iconst (-1), .if_icmp .eq (7), .iconst (1), .goto (8), .iconst (0), .ireturn]
abbrev mX2_isOn : Nat := 27
def cdX2_turnOff : List Jvm.ClassFile.Instr := [.aload 0, .iconst (78), .iconst (-1), .invokevirtual 20, .return_]
abbrev mX2_turnOff : Nat := 28
def cdX2_isWhole : List Jvm.ClassFile.Instr := [.iconst (56), .iload 1, .iconst (8), .imul, .iadd, .istore 2, .iconst (0), .istore 3, .iconst (0), .istore 4, .iload 4, .iconst (6), .if_icmp .ge (27), .iload 3, .iload 4, .iconst (1), .iadd, .aload 0, .iload 2, .iload 4, .iadd, .invokevirtual 19, .imul, .iadd, .istore 3, .iinc 4 1, .goto (10), .aload 0, .iload 2, .invokevirtual 19, .iconst (165), .if_icmp .ne (49), .aload 0, .iload 2, .iconst (6), .iadd, .invokevirtual 19, .iconst (256), .imul, .aload 0, .iload 2, .iconst (7), .iadd, .invokevirtual 19, .iadd, .iload 3, .if_icmp .ne (49), .iconst (1), .goto (50), .iconst (0), .ireturn]
abbrev mX2_isWhole : Nat := 29
def cdX2_sequence : List Jvm.ClassFile.Instr := [.aload 0, .iconst (56), .iload 1, .iconst (8), .imul, .iadd, .iconst (1), .iadd, .invokevirtual 19, .ireturn]
abbrev mX2_sequence : Nat := 30
def cdX2_newestPage : List Jvm.ClassFile.Instr := [.aload 0, .iconst (0), .invokevirtual 29, .istore 1, .aload 0, .iconst (1), .invokevirtual 29, .istore 2, .iload 1, .ifCond .eq (27), .iload 2, .ifCond .eq (27), .aload 0, .iconst (1), .invokevirtual 30, .aload 0, .iconst (0), .invokevirtual 30, .iconst (1), .iadd, .iconst (255), .iand, .if_icmp .ne (25), .iconst (1), .goto (26), .iconst (0), .ireturn, .iload 1, .ifCond .eq (31), .iconst (0), .ireturn, .iload 2, .ifCond .eq (35), .iconst (1), .goto (36), .iconst (-1), .ireturn]
abbrev mX2_newestPage : Nat := 31
def cdX2_readFlags : List Jvm.ClassFile.Instr := [.aload 0, .aload 0, .invokevirtual 31, .putfield 206, .aload 0, .getfield 206, .iconst (-1), .if_icmp .ne (15), .aload 0, .iconst (0), .iconst (0), .iconst (0), .iconst (3), .invokevirtual 33, .return_, .iconst (56), .aload 0, .getfield 206, .iconst (8), .imul, .iadd, .istore 1, .aload 0, .aload 0, .iload 1, .iconst (2), .iadd, .invokevirtual 19, .aload 0, .iload 1, .iconst (3), .iadd, .invokevirtual 19, .aload 0, .iload 1, .iconst (4), .iadd, .invokevirtual 19, .aload 0, .iload 1, .iconst (5), .iadd, .invokevirtual 19, .invokevirtual 33, .return_]
abbrev mX2_readFlags : Nat := 32
def cdX2_takeFlags : List Jvm.ClassFile.Instr := [.aload 0, .iload 1, .putfield 202, .aload 0, .iload 2, .putfield 203, .aload 0, .iload 3, .putfield 204, .aload 0, .iload 4, .putfield 205, .return_]
abbrev mX2_takeFlags : Nat := 33
def cdX2_slotFlags : List Jvm.ClassFile.Instr := [.iload 1, .ifCond .ne (5), .aload 0, .getfield 202, .goto (7), .aload 0, .getfield 203, .ireturn]
abbrev mX2_slotFlags : Nat := 34
def cdX2_setSlotFlags : List Jvm.ClassFile.Instr := [.iload 1, .ifCond .ne (6), .aload 0, .iload 2, .putfield 202, .goto (9), .aload 0, .iload 2, .putfield 203, .return_]
abbrev mX2_setSlotFlags : Nat := 35
def cdX2_flagsAsOne : List Jvm.ClassFile.Instr := [.aload 0, .invokevirtual 32, .aload 0, .getfield 202, .iconst (24), .ishl, .aload 0, .getfield 203, .iconst (16), .ishl, .ior, .aload 0, .getfield 204, .iconst (8), .ishl, .ior, .aload 0, .getfield 205, .ior, .ireturn]
abbrev mX2_flagsAsOne : Nat := 36
def cdX2_putFlags : List Jvm.ClassFile.Instr := [.aload 0, .iload 1, .iload 2, .iload 3, .iload 4, .invokevirtual 33, .iconst (56), .istore 5, .iload 5, .iconst (72), .if_icmp .ge (17), .aload 0, .iload 5, .iconst (255), .invokevirtual 20, .iinc 5 1, .goto (8), .aload 0, .iconst (-1), .putfield 206, .aload 0, .iconst (-1), .putfield 207, .aload 0, .invokevirtual 38, .return_]
abbrev mX2_putFlags : Nat := 37
def cdX2_writeFlags : List Jvm.ClassFile.Instr := [.aload 0, .getfield 206, .ifCond .ne (5), .iconst (1), .goto (6), .iconst (0), .istore 1, .aload 0, .getfield 206, .iconst (-1), .if_icmp .ne (13), .iconst (0), .goto (21), .aload 0, .aload 0, .getfield 206, .invokevirtual 30, .iconst (1), .iadd, .iconst (255), .iand, .istore 2, .iconst (56), .iload 1, .iconst (8), .imul, .iadd, .istore 3, .iconst (165), .iconst (2), .iload 2, .imul, .iadd, .iconst (3), .aload 0, .getfield 202, .imul, .iadd, .iconst (4), .aload 0, .getfield 203, .imul, .iadd, .iconst (5), .aload 0, .getfield 204, .imul, .iadd, .iconst (6), .aload 0, .getfield 205, .imul, .iadd, .istore 4, .aload 0, .iload 3, .iconst (8), .iconst (255), .invokevirtual 39, .aload 0, .iload 3, .iconst (1), .iconst (165), .invokevirtual 39, .aload 0, .iload 3, .iconst (1), .iadd, .iconst (1), .iload 2, .invokevirtual 39, .aload 0, .iload 3, .iconst (2), .iadd, .iconst (1), .aload 0, .getfield 202, .invokevirtual 39, .aload 0, .iload 3, .iconst (3), .iadd, .iconst (1), .aload 0, .getfield 203, .invokevirtual 39, .aload 0, .iload 3, .iconst (4), .iadd, .iconst (1), .aload 0, .getfield 204, .invokevirtual 39, .aload 0, .iload 3, .iconst (5), .iadd, .iconst (1), .aload 0, .getfield 205, .invokevirtual 39, .aload 0, .iload 3, .iconst (6), .iadd, .iconst (1), .iload 4, .iconst (256), .idiv, .invokevirtual 39, .aload 0, .iload 3, .iconst (7), .iadd, .iconst (1), .iload 4, .iconst (256), .irem, .invokevirtual 39, .aload 0, .iload 1, .putfield 206, .return_]
abbrev mX2_writeFlags : Nat := 38
def cdX2_write : List Jvm.ClassFile.Instr := [.aload 0, .getfield 207, .iconst (-1), .if_icmp .eq (13), .aload 0, .getfield 208, .aload 0, .getfield 207, .if_icmp .lt (13), .aload 0, .iconst (1), .putfield 209, .return_, .aload 0, .dup, .getfield 208, .iconst (1), .iadd, .putfield 208, .iload 1, .istore 4, .iload 4, .iload 1, .iload 2, .iadd, .if_icmp .ge (40), .iload 4, .ifCond .lt (38), .iload 4, .aload 0, .getfield 201, .arraylength, .if_icmp .ge (38), .aload 0, .getfield 201, .iload 4, .iload 3, .iastore, .iinc 4 1, .goto (21), .return_]
abbrev mX2_write : Nat := 39
def cdX2_isRevoked : List Jvm.ClassFile.Instr := [.iload 1, .istore 2, .iconst (0), .istore 3, .iload 3, .iconst (6), .if_icmp .ge (28), .iload 2, .ifCond .lt (28), .aload 0, .iconst (77), .invokevirtual 19, .iload 2, .ishr, .iconst (1), .iand, .iconst (1), .if_icmp .ne (20), .iconst (1), .ireturn, .aload 0, .getfield 200, .getfield 6, .iload 2, .invokestatic 97, .istore 2, .iinc 3 1, .goto (4), .iconst (0), .ireturn]
abbrev mX2_isRevoked : Nat := 40
def cdX2_version : List Jvm.ClassFile.Instr := [.aload 0, .iload 1, .iconst (14), .imul, .invokevirtual 19, .iconst (1), .isub, .ireturn]
abbrev mX2_version : Nat := 41
def cdX2_reasonAgainst : List Jvm.ClassFile.Instr := [.iload 1, .iconst (14), .imul, .istore 2, .aload 0, .iload 1, .invokevirtual 41, .istore 3, .aload 0, .iload 2, .iconst (1), .iadd, .invokevirtual 19, .istore 4, .aload 0, .iload 2, .iconst (3), .iadd, .invokevirtual 19, .istore 5, .iload 3, .ifCond .lt (36), .iload 3, .iconst (30), .if_icmp .gt (36), .aload 0, .getfield 200, .iload 4, .invokevirtual 4, .ifCond .eq (36), .iload 5, .iconst (1), .if_icmp .lt (36), .iload 5, .iconst (4), .if_icmp .le (38), .iconst (1), .ireturn, .aload 0, .iload 2, .iconst (5), .iadd, .invokevirtual 19, .aload 0, .getfield 200, .aload 0, .getfield 201, .iload 2, .invokevirtual 10, .if_icmp .eq (52), .iconst (2), .ireturn, .iload 1, .iconst (2), .if_icmp .lt (59), .iload 4, .ifCond .eq (72), .iconst (3), .ireturn, .aload 0, .iload 4, .invokevirtual 40, .ifCond .eq (65), .iconst (3), .ireturn, .iload 3, .aload 0, .iconst (76), .invokevirtual 19, .if_icmp .ge (72), .iconst (4), .ireturn, .aload 0, .iload 2, .iload 5, .invokevirtual 43, .ifCond .eq (79), .iconst (0), .goto (80), .iconst (5), .ireturn]
abbrev mX2_reasonAgainst : Nat := 42
def cdX2_hasSoundParts : List Jvm.ClassFile.Instr := [.aload 0, .iload 1, .iconst (4), .iadd, .invokevirtual 19, .istore 3, .iconst (0), .istore 4, .iload 4, .iload 2, .if_icmp .ge (40), .aload 0, .iload 1, .iconst (7), .iadd, .iconst (2), .iload 4, .imul, .iadd, .invokevirtual 19, .istore 5, .aload 0, .iload 1, .iconst (6), .iadd, .iconst (2), .iload 4, .imul, .iadd, .invokevirtual 19, .iload 5, .invokestatic 9, .iload 3, .if_icmp .eq (36), .iconst (0), .ireturn, .iload 5, .istore 3, .iinc 4 1, .goto (8), .iload 3, .ifCond .ne (44), .iconst (1), .goto (45), .iconst (0), .ireturn]
abbrev mX2_hasSoundParts : Nat := 43
def cdX2_recoveryCopy : List Jvm.ClassFile.Instr := [.aload 0, .iconst (2), .invokevirtual 42, .ifCond .ne (6), .iconst (1), .goto (7), .iconst (0), .istore 1, .aload 0, .iconst (3), .invokevirtual 42, .ifCond .ne (14), .iconst (1), .goto (15), .iconst (0), .istore 2, .iload 1, .ifCond .eq (31), .iload 2, .ifCond .eq (31), .aload 0, .iconst (3), .invokevirtual 41, .aload 0, .iconst (2), .invokevirtual 41, .if_icmp .le (29), .iconst (3), .goto (30), .iconst (2), .ireturn, .iload 1, .ifCond .eq (35), .iconst (2), .ireturn, .iload 2, .ifCond .eq (39), .iconst (3), .goto (40), .iconst (-1), .ireturn]
abbrev mX2_recoveryCopy : Nat := 44
def cdX2_isJournalOpen : List Jvm.ClassFile.Instr := [.aload 0, .iconst (72), .invokevirtual 19, .istore 1, .aload 0, .iconst (73), .invokevirtual 19, .istore 2, .aload 0, .iconst (74), .invokevirtual 19, .istore 3, .iload 3, .iconst (90), .if_icmp .ne (36), .aload 0, .iconst (75), .invokevirtual 19, .iload 1, .iload 2, .iadd, .iload 3, .iadd, .iconst (255), .iand, .if_icmp .ne (36), .iload 1, .invokestatic 149, .ifCond .eq (36), .aload 0, .getfield 200, .iload 2, .invokevirtual 5, .ifCond .eq (36), .iconst (1), .goto (37), .iconst (0), .ireturn]
abbrev mX2_isJournalOpen : Nat := 45
def cdX2_isAble : List Jvm.ClassFile.Instr := [.aload 0, .iconst (78), .invokevirtual 19, .istore 4, .iload 1, .ifCond .ne (20), .iload 4, .iconst (-1), .if_icmp .ne (18), .iload 2, .ifCond .eq (14), .iload 2, .iconst (1), .if_icmp .ne (18), .iload 3, .ifCond .ne (18), .iconst (1), .goto (19), .iconst (0), .ireturn, .iload 4, .iconst (-1), .if_icmp .ne (25), .iconst (0), .ireturn, .iload 1, .tableswitch (86) (1) (6) #[27, 35, 50, 61, 27, 70], .iload 2, .ifCond .ne (33), .iload 3, .ifCond .ne (33), .iconst (1), .goto (34), .iconst (0), .ireturn, .iload 2, .invokestatic 149, .ifCond .eq (48), .iload 2, .iload 4, .if_icmp .eq (48), .aload 0, .getfield 200, .iload 3, .invokevirtual 5, .ifCond .eq (48), .iconst (1), .goto (49), .iconst (0), .ireturn, .iload 2, .ifCond .ne (59), .aload 0, .getfield 200, .iload 3, .invokevirtual 6, .ifCond .eq (59), .iconst (1), .goto (60), .iconst (0), .ireturn, .iload 2, .invokestatic 149, .ifCond .eq (68), .iload 3, .ifCond .ne (68), .iconst (1), .goto (69), .iconst (0), .ireturn, .iload 2, .ifCond .ne (84), .iload 3, .ifCond .ne (84), .aload 0, .invokevirtual 45, .ifCond .eq (84), .aload 0, .iconst (72), .invokevirtual 19, .iload 4, .if_icmp .eq (84), .iconst (1), .goto (85), .iconst (0), .ireturn, .iconst (0), .ireturn]
abbrev mX2_isAble : Nat := 46
def cdX2_perform : List Jvm.ClassFile.Instr := [.aload 0, .iload 4, .putfield 207, .aload 0, .iconst (0), .putfield 208, .aload 0, .iconst (0), .putfield 209, .aload 0, .invokevirtual 32, .iconst (-1), .istore 5, .iload 1, .tableswitch (82) (0) (6) #[15, 33, 37, 47, 54, 68, 72], .aload 0, .iload 2, .iconst (1), .if_icmp .ne (21), .iconst (1), .goto (22), .iconst (0), .invokevirtual 48, .istore 5, .iload 5, .iconst (-1), .if_icmp .ne (82), .aload 0, .aload 0, .invokevirtual 44, .invokevirtual 52, .istore 5, .goto (82), .aload 0, .invokevirtual 54, .istore 5, .goto (82), .aload 0, .iload 2, .iload 3, .invokevirtual 57, .aload 0, .iload 2, .iload 3, .invokevirtual 58, .istore 5, .goto (82), .aload 0, .aload 0, .invokevirtual 44, .iload 3, .invokevirtual 60, .istore 5, .goto (82), .aload 0, .iload 2, .invokevirtual 59, .aload 0, .invokevirtual 38, .aload 0, .iconst (1), .iload 2, .isub, .invokevirtual 34, .iconst (4), .ishr, .istore 5, .goto (82), .aload 0, .invokevirtual 61, .istore 5, .goto (82), .aload 0, .aload 0, .iconst (72), .invokevirtual 19, .aload 0, .iconst (73), .invokevirtual 19, .invokevirtual 58, .istore 5, .goto (82), .aload 0, .iconst (81), .aload 0, .getfield 208, .invokevirtual 20, .aload 0, .getfield 209, .ifCond .eq (94), .aload 0, .invokevirtual 28, .iconst (-2), .ireturn, .iload 5, .ireturn]
abbrev mX2_perform : Nat := 47
def cdX2_startSlot : List Jvm.ClassFile.Instr := [.iload 1, .ifCond .ne (8), .aload 0, .getfield 204, .aload 0, .getfield 200, .getfield 2, .if_icmp .lt (10), .iconst (-1), .ireturn, .iconst (0), .istore 2, .iload 2, .iconst (2), .if_icmp .ge (48), .aload 0, .invokevirtual 49, .istore 3, .iload 3, .iconst (-1), .if_icmp .ne (23), .iconst (-1), .ireturn, .aload 0, .iload 3, .invokevirtual 42, .ifCond .ne (40), .aload 0, .iload 3, .invokevirtual 51, .aload 0, .invokevirtual 38, .aload 0, .iload 3, .aload 0, .iload 3, .invokevirtual 41, .invokevirtual 53, .iload 3, .ireturn, .aload 0, .iload 3, .iconst (0), .invokevirtual 35, .aload 0, .invokevirtual 38, .iinc 2 1, .goto (12), .iconst (-1), .ireturn]
abbrev mX2_startSlot : Nat := 48
def cdX2_chosenSlot : List Jvm.ClassFile.Instr := [.aload 0, .getfield 202, .invokestatic 50, .istore 1, .aload 0, .getfield 203, .invokestatic 50, .istore 2, .iload 1, .ifCond .ne (14), .iload 2, .ifCond .ne (14), .iconst (-1), .ireturn, .iload 1, .iload 2, .if_icmp .lt (19), .iconst (0), .goto (20), .iconst (1), .ireturn]
abbrev mX2_chosenSlot : Nat := 49
def cdX2_standing : List Jvm.ClassFile.Instr := [.iload 0, .iconst (15), .iand, .ifCond .ne (6), .iconst (0), .goto (9), .iload 0, .iconst (4), .ishr, .ireturn]
abbrev mX2_standing : Nat := 50
def cdX2_countTry : List Jvm.ClassFile.Instr := [.aload 0, .iload 1, .invokevirtual 34, .istore 2, .iload 2, .iconst (1), .iand, .ifCond .ne (14), .aload 0, .iload 1, .iload 2, .iconst (2), .isub, .invokevirtual 35, .aload 0, .aload 0, .getfield 204, .iconst (1), .iadd, .iconst (255), .dadd, .putfield 204, .aload 0, .iload 1, .putfield 205, .return_]
abbrev mX2_countTry : Nat := 51
def cdX2_startRecovery : List Jvm.ClassFile.Instr := [.iload 1, .iconst (-1), .if_icmp .ne (5), .iconst (3), .ireturn, .aload 0, .iconst (2), .putfield 205, .aload 0, .invokevirtual 38, .aload 0, .iconst (2), .aload 0, .iload 1, .invokevirtual 41, .invokevirtual 53, .iconst (2), .ireturn]
abbrev mX2_startRecovery : Nat := 52
def cdX2_noteStart : List Jvm.ClassFile.Instr := [.aload 0, .getfield 209, .ifCond .eq (4), .return_, .aload 0, .iconst (82), .invokevirtual 19, .istore 3, .iconst (83), .iconst (2), .iload 3, .iconst (12), .irem, .imul, .iadd, .istore 4, .aload 0, .iload 4, .iload 1, .invokevirtual 20, .aload 0, .iload 4, .iconst (1), .iadd, .iload 2, .invokevirtual 20, .aload 0, .iconst (82), .iload 3, .iconst (1), .iadd, .invokevirtual 20, .aload 0, .iconst (78), .iload 1, .invokevirtual 20, .aload 0, .iconst (79), .iconst (0), .invokevirtual 20, .aload 0, .iconst (80), .iconst (0), .invokevirtual 20, .return_]
abbrev mX2_noteStart : Nat := 53
def cdX2_tellHealth : List Jvm.ClassFile.Instr := [.aload 0, .iconst (78), .invokevirtual 19, .istore 1, .aload 0, .iconst (0), .putfield 204, .iload 1, .invokestatic 149, .ifCond .eq (26), .aload 0, .iload 1, .aload 0, .iload 1, .invokevirtual 34, .iconst (240), .iand, .iconst (2), .aload 0, .getfield 200, .getfield 3, .imul, .iadd, .iconst (1), .iadd, .invokevirtual 35, .aload 0, .invokevirtual 38, .iload 1, .invokestatic 149, .ifCond .eq (45), .aload 0, .aload 0, .iload 1, .invokevirtual 41, .invokevirtual 55, .aload 0, .aload 0, .iload 1, .iconst (14), .imul, .iconst (2), .iadd, .invokevirtual 19, .invokevirtual 56, .aload 0, .getfield 209, .ifCond .ne (52), .aload 0, .iconst (80), .iconst (1), .invokevirtual 20, .aload 0, .iconst (76), .invokevirtual 19, .ireturn]
abbrev mX2_tellHealth : Nat := 54
def cdX2_blowVersionFuses : List Jvm.ClassFile.Instr := [.iload 1, .iconst (31), .dadd, .istore 2, .aload 0, .iconst (76), .invokevirtual 19, .istore 3, .iload 3, .iload 2, .if_icmp .ge (20), .aload 0, .iconst (76), .iconst (1), .iload 3, .iconst (1), .iadd, .invokevirtual 39, .iinc 3 1, .goto (8), .return_]
abbrev mX2_blowVersionFuses : Nat := 55
def cdX2_blowKeyFuses : List Jvm.ClassFile.Instr := [.iconst (0), .istore 2, .iload 2, .iconst (6), .if_icmp .ge (30), .iconst (1), .iload 2, .ishl, .istore 3, .aload 0, .iconst (77), .invokevirtual 19, .istore 4, .iload 1, .iload 3, .iand, .ifCond .eq (28), .iload 4, .iload 3, .iand, .ifCond .ne (28), .aload 0, .iconst (77), .iconst (1), .iload 4, .iload 3, .ior, .invokevirtual 39, .iinc 2 1, .goto (2), .return_]
abbrev mX2_blowKeyFuses : Nat := 56
def cdX2_openJournal : List Jvm.ClassFile.Instr := [.aload 0, .iconst (74), .iconst (1), .iconst (0), .invokevirtual 39, .aload 0, .iconst (72), .iconst (1), .iload 1, .invokevirtual 39, .aload 0, .iconst (73), .iconst (1), .iload 2, .invokevirtual 39, .aload 0, .iconst (75), .iconst (1), .iload 1, .iload 2, .iadd, .iconst (90), .iadd, .iconst (255), .iand, .invokevirtual 39, .aload 0, .iconst (74), .iconst (1), .iconst (90), .invokevirtual 39, .return_]
abbrev mX2_openJournal : Nat := 57
def cdX2_finishInstall : List Jvm.ClassFile.Instr := [.aload 0, .iload 1, .iconst (0), .invokevirtual 35, .aload 0, .invokevirtual 38, .aload 0, .iload 1, .aload 0, .getfield 200, .getfield 7, .iload 2, .iconst (14), .imul, .invokevirtual 62, .aload 0, .iload 1, .iconst (2), .aload 0, .getfield 200, .getfield 3, .imul, .invokevirtual 35, .aload 0, .iload 1, .invokevirtual 59, .aload 0, .invokevirtual 38, .aload 0, .iconst (74), .iconst (1), .iconst (0), .invokevirtual 39, .aload 0, .getfield 208, .ireturn]
abbrev mX2_finishInstall : Nat := 58
def cdX2_favour : List Jvm.ClassFile.Instr := [.aload 0, .iload 1, .iconst (240), .aload 0, .iload 1, .invokevirtual 34, .iconst (15), .iand, .iadd, .invokevirtual 35, .aload 0, .iconst (1), .iload 1, .isub, .invokevirtual 34, .istore 2, .iload 2, .iconst (240), .if_icmp .lt (27), .aload 0, .iconst (1), .iload 1, .isub, .iload 2, .iconst (16), .isub, .invokevirtual 35, .return_]
abbrev mX2_favour : Nat := 59
def cdX2_refreshOther : List Jvm.ClassFile.Instr := [.iload 1, .iconst (2), .if_icmp .ne (5), .iconst (3), .goto (6), .iconst (2), .istore 3, .aload 0, .iload 3, .aload 0, .getfield 200, .getfield 7, .iload 2, .iconst (14), .imul, .invokevirtual 62, .iload 3, .ireturn]
abbrev mX2_refreshOther : Nat := 60
def cdX2_mendBoth : List Jvm.ClassFile.Instr := [.iconst (0), .istore 1, .aload 0, .iconst (0), .invokevirtual 29, .aload 0, .iconst (1), .invokevirtual 29, .if_icmp .eq (13), .aload 0, .invokevirtual 38, .iconst (1), .istore 1, .aload 0, .iconst (2), .invokevirtual 42, .ifCond .ne (19), .iconst (1), .goto (20), .iconst (0), .istore 2, .aload 0, .iconst (3), .invokevirtual 42, .ifCond .ne (27), .iconst (1), .goto (28), .iconst (0), .istore 3, .iload 2, .iload 3, .if_icmp .eq (53), .iload 2, .ifCond .eq (36), .iconst (2), .goto (37), .iconst (3), .istore 4, .iload 2, .ifCond .eq (42), .iconst (3), .goto (43), .iconst (2), .istore 5, .aload 0, .iload 5, .aload 0, .getfield 201, .iload 4, .iconst (14), .imul, .invokevirtual 62, .iinc 1 2, .iload 1, .ireturn]
abbrev mX2_mendBoth : Nat := 61
def cdX2_lay : List Jvm.ClassFile.Instr := [.iload 1, .iconst (14), .imul, .istore 4, .aload 0, .iload 4, .iconst (1), .iconst (0), .invokevirtual 39, .iconst (13), .istore 5, .iload 5, .ifCond .lt (26), .aload 0, .iload 4, .iload 5, .iadd, .iconst (1), .aload 2, .iload 3, .iload 5, .iadd, .invokestatic 97, .invokevirtual 39, .iinc 5 (-1), .goto (11), .return_]
abbrev mX2_lay : Nat := 62
def cdX2_passTicks : List Jvm.ClassFile.Instr := [.iconst (0), .istore 2, .iconst (0), .istore 3, .iload 3, .iload 1, .if_icmp .ge (50), .aload 0, .invokevirtual 27, .ifCond .eq (50), .aload 0, .iconst (79), .invokevirtual 19, .iconst (1), .iadd, .istore 4, .aload 0, .iconst (79), .iload 4, .invokevirtual 20, .aload 0, .iconst (78), .invokevirtual 19, .invokestatic 149, .ifCond .eq (48), .aload 0, .iconst (80), .invokevirtual 19, .ifCond .ne (48), .iload 4, .aload 0, .getfield 200, .getfield 4, .if_icmp .lt (48), .aload 0, .invokevirtual 28, .aload 0, .iconst (0), .iconst (0), .iconst (0), .iconst (-1), .invokevirtual 47, .pop, .aload 0, .iconst (79), .iconst (0), .invokevirtual 20, .iinc 2 1, .iinc 3 1, .goto (4), .iload 2, .ireturn]
abbrev mX2_passTicks : Nat := 63
def cdX3_init : List Jvm.ClassFile.Instr := [.aload 0, .dneg, .aload 0, .aload 1, .putfield 300, .aload 0, .iconst (1284), .newarray .int, .putfield 301, .return_]
abbrev mX3_init : Nat := 64
def cdX3_keep : List Jvm.ClassFile.Instr := [.aload 0, .getfield 300, .aload 0, .getfield 301, .aload 0, .getfield 302, .iconst (107), .imul, .invokevirtual 23, .aload 0, .aload 0, .getfield 302, .iconst (1), .iadd, .iconst (12), .irem, .putfield 302, .aload 0, .aload 0, .getfield 303, .iconst (1), .iadd, .iconst (12), .dadd, .putfield 303, .return_]
abbrev mX3_keep : Nat := 65
def cdX3_bringBack : List Jvm.ClassFile.Instr := [.aload 0, .getfield 303, .ifCond .ne (5), .iconst (-1), .ireturn, .aload 0, .aload 0, .getfield 302, .iconst (12), .iadd, .iconst (1), .isub, .iconst (12), .irem, .putfield 302, .aload 0, .dup, .getfield 303, .iconst (1), .isub, .putfield 303, .aload 0, .getfield 300, .aload 0, .getfield 301, .aload 0, .getfield 302, .iconst (107), .imul, .invokevirtual 24, .aload 0, .getfield 303, .ireturn]
abbrev mX3_bringBack : Nat := 66
def cdX3_forget : List Jvm.ClassFile.Instr := [.aload 0, .iconst (0), .putfield 303, .return_]
abbrev mX3_forget : Nat := 67
def cdX4_init : List Jvm.ClassFile.Instr := [.aload 0, .dneg, .aload 0, .aload 1, .putfield 400, .aload 0, .aload 2, .putfield 401, .return_]
abbrev mX4_init : Nat := 68
def cdX4_read : List Jvm.ClassFile.Instr := [.aload 0, .iload 1, .putfield 402, .aload 0, .iconst (0), .putfield 403, .aload 0, .iconst (-1), .putfield 404, .aload 0, .iconst (0), .putfield 410, .aload 0, .iconst (0), .putfield 407, .aload 0, .iconst (0), .putfield 408, .aload 0, .iconst (0), .putfield 409, .aload 0, .getfield 401, .invokevirtual 2, .iconst (0), .istore 2, .iload 2, .aload 0, .getfield 402, .if_icmp .gt (74), .aload 0, .invokevirtual 70, .ifCond .ne (36), .aload 0, .getfield 404, .ireturn, .aload 0, .dup, .getfield 410, .iconst (1), .iadd, .putfield 410, .aload 0, .invokevirtual 80, .aload 0, .getfield 403, .aload 0, .getfield 402, .if_icmp .lt (51), .iconst (-1), .ireturn, .aload 0, .aload 0, .getfield 403, .invokevirtual 81, .iconst (59), .if_icmp .eq (66), .aload 0, .aload 0, .getfield 403, .iconst (1), .invokevirtual 82, .pop, .aload 0, .getfield 404, .ireturn, .aload 0, .dup, .getfield 403, .iconst (1), .iadd, .putfield 403, .iinc 2 1, .goto (26), .aload 0, .getfield 404, .ireturn]
abbrev mX4_read : Nat := 69
def cdX4_readLine : List Jvm.ClassFile.Instr := [.aload 0, .invokevirtual 80, .aload 0, .getfield 403, .istore 1, .aload 0, .ldc 0, .invokevirtual 78, .ifCond .eq (13), .aload 0, .iload 1, .invokevirtual 71, .ireturn, .aload 0, .ldc 2, .invokevirtual 78, .ifCond .eq (21), .aload 0, .iload 1, .invokevirtual 72, .ireturn, .aload 0, .ldc 5, .invokevirtual 78, .ifCond .eq (29), .aload 0, .iload 1, .invokevirtual 75, .ireturn, .aload 0, .ldc 6, .invokevirtual 78, .ifCond .eq (37), .aload 0, .iload 1, .invokevirtual 76, .ireturn, .aload 0, .ldc 7, .invokevirtual 78, .ifCond .eq (45), .aload 0, .iload 1, .invokevirtual 77, .ireturn, .aload 0, .iload 1, .iconst (1), .invokevirtual 82, .ireturn]
abbrev mX4_readLine : Nat := 70
def cdX4_readKey : List Jvm.ClassFile.Instr := [.aload 0, .getfield 401, .getfield 0, .iconst (6), .if_icmp .lt (10), .aload 0, .iload 1, .iconst (3), .invokevirtual 82, .ireturn, .aload 0, .iconst (0), .iconst (9999), .invokevirtual 79, .ifCond .ne (17), .iconst (0), .ireturn, .aload 0, .getfield 405, .istore 2, .iconst (-1), .istore 3, .aload 0, .ldc 1, .invokevirtual 78, .ifCond .eq (40), .aload 0, .iconst (0), .aload 0, .getfield 401, .getfield 0, .iconst (1), .isub, .invokevirtual 79, .ifCond .ne (37), .iconst (0), .ireturn, .aload 0, .getfield 405, .istore 3, .aload 0, .getfield 401, .iload 2, .iload 3, .invokevirtual 7, .iconst (1), .ireturn]
abbrev mX4_readKey : Nat := 71
def cdX4_readImage : List Jvm.ClassFile.Instr := [.aload 0, .getfield 401, .getfield 1, .iconst (6), .if_icmp .lt (10), .aload 0, .iload 1, .iconst (3), .invokevirtual 82, .ireturn, .aload 0, .iconst (0), .iconst (30), .invokevirtual 79, .ifCond .ne (17), .iconst (0), .ireturn, .aload 0, .getfield 405, .istore 2, .aload 0, .iconst (0), .aload 0, .getfield 401, .getfield 0, .iconst (1), .isub, .invokevirtual 79, .ifCond .ne (31), .iconst (0), .ireturn, .aload 0, .getfield 405, .istore 3, .aload 0, .ldc 3, .invokevirtual 78, .ifCond .eq (41), .aload 0, .invokevirtual 73, .goto (42), .iconst (0), .istore 4, .iload 4, .iconst (-1), .if_icmp .ne (48), .iconst (0), .ireturn, .aload 0, .ldc 4, .invokevirtual 78, .ifCond .ne (58), .aload 0, .aload 0, .getfield 403, .iconst (1), .invokevirtual 82, .ireturn, .aload 0, .invokevirtual 74, .istore 5, .iload 5, .iconst (-1), .if_icmp .ne (66), .iconst (0), .ireturn, .aload 0, .getfield 401, .iload 2, .iload 3, .iload 4, .iload 5, .invokevirtual 8, .iconst (1), .ireturn]
abbrev mX4_readImage : Nat := 72
def cdX4_readRevoked : List Jvm.ClassFile.Instr := [.iconst (0), .istore 1, .iconst (0), .istore 2, .iload 2, .iconst (4), .if_icmp .gt (54), .aload 0, .iconst (0), .aload 0, .getfield 401, .getfield 0, .iconst (1), .isub, .invokevirtual 79, .ifCond .ne (18), .iconst (-1), .ireturn, .iload 2, .iconst (4), .if_icmp .ne (29), .aload 0, .aload 0, .getfield 406, .iconst (4), .invokevirtual 82, .pop, .iconst (-1), .ireturn, .iload 1, .iconst (1), .aload 0, .getfield 405, .ishl, .ior, .istore 1, .aload 0, .invokevirtual 80, .aload 0, .aload 0, .getfield 403, .invokevirtual 81, .iconst (44), .if_icmp .eq (46), .iload 1, .ireturn, .aload 0, .dup, .getfield 403, .iconst (1), .iadd, .putfield 403, .iinc 2 1, .goto (4), .iconst (-1), .ireturn]
abbrev mX4_readRevoked : Nat := 73
def cdX4_readParts : List Jvm.ClassFile.Instr := [.iconst (0), .istore 1, .iload 1, .iconst (4), .if_icmp .gt (54), .aload 0, .iconst (0), .iconst (99999), .invokevirtual 79, .ifCond .ne (12), .iconst (-1), .ireturn, .iload 1, .iconst (4), .if_icmp .ne (23), .aload 0, .aload 0, .getfield 406, .iconst (4), .invokevirtual 82, .pop, .iconst (-1), .ireturn, .aload 0, .getfield 401, .getfield 7, .aload 0, .getfield 401, .getfield 1, .iconst (14), .imul, .iconst (6), .iadd, .iconst (2), .iload 1, .imul, .iadd, .aload 0, .getfield 405, .invokestatic 98, .aload 0, .invokevirtual 80, .aload 0, .aload 0, .getfield 403, .invokevirtual 81, .invokestatic 84, .ifCond .ne (52), .iload 1, .iconst (1), .iadd, .ireturn, .iinc 1 1, .goto (2), .iconst (-1), .ireturn]
abbrev mX4_readParts : Nat := 74
def cdX4_readLimit : List Jvm.ClassFile.Instr := [.aload 0, .getfield 407, .ifCond .eq (8), .aload 0, .iload 1, .iconst (3), .invokevirtual 82, .ireturn, .aload 0, .iconst (1), .putfield 407, .aload 0, .iconst (1), .iconst (9), .invokevirtual 79, .ifCond .ne (18), .iconst (0), .ireturn, .aload 0, .getfield 401, .aload 0, .getfield 405, .putfield 2, .iconst (1), .ireturn]
abbrev mX4_readLimit : Nat := 75
def cdX4_readTries : List Jvm.ClassFile.Instr := [.aload 0, .getfield 408, .ifCond .eq (8), .aload 0, .iload 1, .iconst (3), .invokevirtual 82, .ireturn, .aload 0, .iconst (1), .putfield 408, .aload 0, .iconst (1), .iconst (7), .invokevirtual 79, .ifCond .ne (18), .iconst (0), .ireturn, .aload 0, .getfield 401, .aload 0, .getfield 405, .putfield 3, .iconst (1), .ireturn]
abbrev mX4_readTries : Nat := 76
def cdX4_readWatch : List Jvm.ClassFile.Instr := [.aload 0, .getfield 409, .ifCond .eq (8), .aload 0, .iload 1, .iconst (3), .invokevirtual 82, .ireturn, .aload 0, .iconst (1), .putfield 409, .aload 0, .iconst (1), .iconst (99), .invokevirtual 79, .ifCond .ne (18), .iconst (0), .ireturn, .aload 0, .getfield 401, .aload 0, .getfield 405, .putfield 4, .iconst (1), .ireturn]
abbrev mX4_readWatch : Nat := 77
def cdX4_takeWord : List Jvm.ClassFile.Instr := [.aload 0, .invokevirtual 80, .iconst (0), .istore 2, .iload 2, .aload 1, .ddiv, .if_icmp .ge (22), .aload 0, .aload 0, .getfield 403, .iload 2, .iadd, .invokevirtual 81, .aload 1, .iload 2, .drem, .if_icmp .eq (20), .iconst (0), .ireturn, .iinc 2 1, .goto (4), .aload 0, .aload 0, .getfield 403, .aload 1, .ddiv, .iadd, .invokevirtual 81, .invokestatic 83, .ifCond .eq (33), .iconst (0), .ireturn, .aload 0, .dup, .getfield 403, .aload 1, .ddiv, .iadd, .putfield 403, .iconst (1), .ireturn]
abbrev mX4_takeWord : Nat := 78
def cdX4_takeNumber : List Jvm.ClassFile.Instr := [.aload 0, .invokevirtual 80, .aload 0, .aload 0, .getfield 403, .putfield 406, .aload 0, .aload 0, .getfield 403, .invokevirtual 81, .invokestatic 84, .ifCond .ne (18), .aload 0, .aload 0, .getfield 403, .iconst (1), .invokevirtual 82, .ireturn, .aload 0, .iconst (0), .putfield 405, .aload 0, .getfield 403, .aload 0, .getfield 402, .if_icmp .ge (54), .aload 0, .aload 0, .getfield 403, .invokevirtual 81, .invokestatic 84, .ifCond .eq (54), .aload 0, .aload 0, .getfield 405, .iconst (10), .imul, .aload 0, .aload 0, .getfield 403, .invokevirtual 81, .iadd, .iconst (48), .isub, .iconst (1000000), .dadd, .putfield 405, .aload 0, .dup, .getfield 403, .iconst (1), .iadd, .putfield 403, .goto (21), .aload 0, .getfield 405, .iload 1, .if_icmp .lt (62), .aload 0, .getfield 405, .iload 2, .if_icmp .le (68), .aload 0, .aload 0, .getfield 406, .iconst (2), .invokevirtual 82, .ireturn, .iconst (1), .ireturn]
abbrev mX4_takeNumber : Nat := 79
def cdX4_skipBlanks : List Jvm.ClassFile.Instr := [.aload 0, .getfield 403, .aload 0, .getfield 402, .if_icmp .ge (18), .aload 0, .aload 0, .getfield 403, .invokevirtual 81, .iconst (32), .if_icmp .ne (18), .aload 0, .dup, .getfield 403, .iconst (1), .iadd, .putfield 403, .goto (0), .return_]
abbrev mX4_skipBlanks : Nat := 80
def cdX4_byteAt : List Jvm.ClassFile.Instr := [.iload 1, .ifCond .lt (16), .iload 1, .aload 0, .getfield 402, .if_icmp .ge (16), .iload 1, .aload 0, .getfield 400, .arraylength, .if_icmp .ge (16), .aload 0, .getfield 400, .iload 1, .iaload, .goto (17), .iconst (-1), .ireturn]
abbrev mX4_byteAt : Nat := 81
def cdX4_fail : List Jvm.ClassFile.Instr := [.aload 0, .iconst (8), .iload 1, .imul, .iload 2, .iadd, .putfield 404, .iconst (0), .ireturn]
abbrev mX4_fail : Nat := 82
def cdX4_isLetter : List Jvm.ClassFile.Instr := [.iload 0, .iconst (97), .if_icmp .lt (8), .iload 0, .iconst (122), .if_icmp .gt (8), .iconst (1), .goto (9), .iconst (0), .ireturn]
abbrev mX4_isLetter : Nat := 83
def cdX4_isDigit : List Jvm.ClassFile.Instr := [.iload 0, .iconst (48), .if_icmp .lt (8), .iload 0, .iconst (57), .if_icmp .gt (8), .iconst (1), .goto (9), .iconst (0), .ireturn]
abbrev mX4_isDigit : Nat := 84
def cdX5_init : List Jvm.ClassFile.Instr := [.aload 0, .dneg, .aload 0, .aload 1, .putfield 500, .aload 0, .aload 2, .putfield 501, .aload 0, .new 2, .dup, .aload 1, .invokespecial 18, .putfield 502, .aload 0, .iconst (300), .newarray .long, .putfield 503, .aload 0, .iconst (300), .newarray .int, .putfield 504, .aload 0, .iconst (300), .newarray .int, .putfield 505, .aload 0, .iconst (300), .newarray .int, .putfield 506, .aload 0, .iconst (1024), .newarray .int, .putfield 507, .aload 0, .iconst (12), .newarray .int, .putfield 508, .return_]
abbrev mX5_init : Nat := 85
def cdX5_moveOrLength : List Jvm.ClassFile.Instr := [.iload 1, .iconst (-1), .if_icmp .ne (6), .aload 0, .getfield 510, .ireturn, .iload 1, .aload 0, .getfield 510, .if_icmp .ge (19), .aload 0, .aload 0, .getfield 510, .iconst (1), .isub, .iload 1, .isub, .invokevirtual 87, .goto (20), .iconst (-2), .ireturn]
abbrev mX5_moveOrLength : Nat := 86
def cdX5_moveAt : List Jvm.ClassFile.Instr := [.aload 0, .getfield 512, .istore 2, .aload 0, .getfield 511, .istore 3, .iconst (0), .istore 4, .iload 4, .iload 1, .if_icmp .ge (23), .aload 0, .getfield 505, .iload 3, .invokestatic 97, .istore 2, .aload 0, .getfield 504, .iload 3, .invokestatic 97, .istore 3, .iinc 4 1, .goto (8), .iload 2, .ireturn]
abbrev mX5_moveAt : Nat := 87
def cdX5_isThere : List Jvm.ClassFile.Instr := [.aload 0, .getfield 502, .iconst (78), .invokevirtual 19, .istore 2, .iload 2, .invokestatic 149, .ifCond .eq (22), .aload 0, .getfield 502, .iconst (80), .invokevirtual 19, .iconst (1), .if_icmp .ne (22), .aload 0, .getfield 502, .iload 2, .invokevirtual 41, .iload 1, .if_icmp .ne (22), .iconst (1), .goto (23), .iconst (0), .ireturn]
abbrev mX5_isThere : Nat := 88
def cdX5_search : List Jvm.ClassFile.Instr := [.aload 0, .getfield 502, .aload 0, .getfield 501, .invokevirtual 22, .aload 0, .iconst (0), .putfield 510, .aload 0, .iload 1, .invokevirtual 88, .ifCond .eq (14), .iconst (1), .ireturn, .aload 0, .invokevirtual 90, .aload 0, .getfield 507, .iconst (0), .invokestatic 263, .aload 0, .iconst (0), .putfield 509, .aload 0, .aload 0, .iconst (0), .iconst (0), .invokevirtual 94, .iconst (0), .iconst (0), .invokevirtual 96, .pop, .iconst (0), .istore 2, .iconst (0), .istore 3, .iload 3, .aload 0, .getfield 509, .if_icmp .ge (102), .iload 3, .iconst (300), .if_icmp .ge (102), .iload 2, .ifCond .ne (102), .iconst (0), .istore 4, .iload 4, .iconst (2), .if_icmp .gt (60), .iload 2, .ifCond .ne (60), .aload 0, .iload 3, .iload 4, .iload 1, .invokevirtual 92, .istore 2, .iinc 4 1, .goto (47), .iconst (0), .istore 4, .iload 4, .iconst (2), .aload 0, .getfield 500, .getfield 1, .imul, .if_icmp .ge (100), .iload 2, .ifCond .ne (100), .iload 4, .aload 0, .getfield 500, .getfield 1, .if_icmp .ge (78), .iconst (0), .goto (79), .iconst (1), .istore 5, .aload 0, .iload 3, .iconst (100), .iconst (10), .iload 5, .imul, .iadd, .iload 4, .iadd, .iload 5, .aload 0, .getfield 500, .getfield 1, .imul, .isub, .iload 1, .invokevirtual 92, .istore 2, .iinc 4 1, .goto (62), .iinc 3 1, .goto (36), .iload 2, .ireturn]
abbrev mX5_search : Nat := 89
def cdX5_findAlike : List Jvm.ClassFile.Instr := [.iconst (0), .istore 1, .iload 1, .iconst (2), .if_icmp .ge (28), .iconst (0), .istore 2, .iload 2, .aload 0, .getfield 500, .getfield 1, .if_icmp .ge (26), .aload 0, .getfield 508, .iload 1, .iconst (6), .imul, .iload 2, .iadd, .aload 0, .iload 1, .iload 2, .invokevirtual 91, .invokestatic 98, .iinc 2 1, .goto (7), .iinc 1 1, .goto (2), .return_]
abbrev mX5_findAlike : Nat := 90
def cdX5_firstAlike : List Jvm.ClassFile.Instr := [.aload 0, .getfield 501, .iload 1, .iload 2, .invokevirtual 26, .ifCond .eq (8), .iconst (0), .ireturn, .aload 0, .getfield 502, .iload 1, .iload 2, .invokevirtual 25, .iconst (0), .istore 3, .iload 3, .iload 2, .if_icmp .ge (30), .aload 0, .getfield 502, .iload 1, .iload 3, .invokevirtual 26, .ifCond .eq (28), .iload 3, .iconst (1), .iadd, .ireturn, .iinc 3 1, .goto (15), .iload 2, .iconst (1), .iadd, .ireturn]
abbrev mX5_firstAlike : Nat := 91
def cdX5_step : List Jvm.ClassFile.Instr := [.iload 1, .ifCond .lt (12), .iload 1, .aload 0, .getfield 503, .arraylength, .if_icmp .ge (12), .aload 0, .getfield 503, .iload 1, .laload, .goto (13), .jsr_w (0), .lstore 4, .lload 4, .iconst (49), .iconst (3), .invokestatic 93, .iconst (1), .isub, .fstore 6, .iload 2, .iconst (100), .if_icmp .lt (30), .iload 2, .iconst (100), .isub, .iconst (10), .idiv, .goto (31), .iconst (-1), .fstore 7, .iload 6, .iconst (-1), .if_icmp .ne (37), .iconst (1), .goto (38), .iconst (0), .iload 2, .iconst (1), .if_icmp .ne (43), .iconst (1), .goto (44), .iconst (0), .if_icmp .ne (51), .iload 7, .iload 6, .if_icmp .ne (53), .iload 6, .iconst (-1), .if_icmp .eq (53), .iconst (0), .ireturn, .aload 0, .lload 4, .invokevirtual 95, .lload 4, .iconst (0), .iconst (7), .invokestatic 93, .fstore 8, .lload 4, .iconst (3), .iconst (7), .invokestatic 93, .fstore 9, .iload 2, .ifCond .ne (72), .aload 0, .getfield 502, .invokevirtual 28, .goto (131), .iload 2, .iconst (1), .if_icmp .ne (84), .aload 0, .getfield 502, .iconst (0), .iconst (0), .iconst (0), .iconst (-1), .invokevirtual 47, .pop, .goto (131), .iload 2, .iconst (2), .if_icmp .ne (96), .aload 0, .getfield 502, .iconst (1), .iconst (0), .iconst (0), .iconst (-1), .invokevirtual 47, .pop, .goto (131), .iload 2, .iconst (100), .isub, .iconst (10), .irem, .fstore 10, .aload 0, .getfield 502, .iconst (2), .iload 7, .iload 10, .iconst (-1), .invokevirtual 47, .pop, .iload 7, .ifCond .ne (117), .aload 0, .getfield 508, .iload 10, .invokestatic 97, .goto (118), .iload 8, .fstore 8, .iload 7, .iconst (1), .if_icmp .ne (129), .aload 0, .getfield 508, .iconst (6), .iload 10, .iadd, .invokestatic 97, .goto (130), .iload 9, .fstore 9, .aload 0, .iload 3, .invokevirtual 88, .ifCond .eq (151), .aload 0, .iload 1, .putfield 511, .aload 0, .iload 2, .putfield 512, .aload 0, .aload 0, .getfield 506, .iload 1, .invokestatic 97, .iconst (1), .iadd, .putfield 510, .iconst (1), .ireturn, .aload 0, .aload 0, .iload 8, .iload 9, .invokevirtual 94, .iload 1, .iload 2, .invokevirtual 96, .ireturn]
abbrev mX5_step : Nat := 92
def cdX5_part : List Jvm.ClassFile.Instr := [.lload 0, .iload 2, .lshr, .l2i, .iload 3, .iand, .ireturn]
abbrev mX5_part : Nat := 93
def cdX5_pack : List Jvm.ClassFile.Instr := [.aload 0, .getfield 502, .invokevirtual 32, .aload 0, .getfield 502, .iconst (78), .invokevirtual 19, .fstore 3, .iload 3, .iconst (-1), .if_icmp .ne (13), .jsr_w (0), .goto (18), .aload 0, .getfield 502, .iconst (80), .invokevirtual 19, .i2l, .lstore 4, .iload 1, .iload 2, .iconst (3), .ishl, .ior, .aload 0, .getfield 502, .iconst (0), .invokevirtual 34, .iconst (6), .ishl, .ior, .aload 0, .getfield 502, .iconst (1), .invokevirtual 34, .iconst (14), .ishl, .ior, .i2l, .aload 0, .getfield 502, .getfield 204, .i2l, .iconst (22), .lshl, .lor, .aload 0, .getfield 502, .getfield 205, .i2l, .iconst (30), .lshl, .lor, .aload 0, .getfield 502, .iconst (76), .invokevirtual 19, .i2l, .iconst (38), .lshl, .lor, .aload 0, .getfield 502, .iconst (77), .invokevirtual 19, .i2l, .iconst (43), .lshl, .lor, .iload 3, .i2l, .jsr_w (1), .ladd, .iconst (49), .lshl, .lor, .lload 4, .iconst (51), .lshl, .lor, .lreturn]
abbrev mX5_pack : Nat := 94
def cdX5_unpack : List Jvm.ClassFile.Instr := [.aload 0, .getfield 502, .aload 0, .getfield 501, .invokevirtual 22, .iconst (0), .fstore 3, .iload 3, .iconst (2), .if_icmp .ge (28), .lload 1, .iconst (3), .iload 3, .imul, .iconst (7), .invokestatic 93, .fstore 4, .iload 4, .ifCond .le (26), .aload 0, .getfield 502, .iload 3, .iload 4, .iconst (1), .isub, .invokevirtual 25, .iinc 3 1, .goto (7), .aload 0, .getfield 502, .lload 1, .iconst (6), .iconst (255), .invokestatic 93, .lload 1, .iconst (14), .iconst (255), .invokestatic 93, .lload 1, .iconst (22), .iconst (255), .invokestatic 93, .lload 1, .iconst (30), .iconst (255), .invokestatic 93, .invokevirtual 37, .aload 0, .getfield 502, .iconst (76), .lload 1, .iconst (38), .iconst (31), .invokestatic 93, .invokevirtual 20, .aload 0, .getfield 502, .iconst (77), .lload 1, .iconst (43), .iconst (63), .invokestatic 93, .invokevirtual 20, .aload 0, .getfield 502, .iconst (78), .lload 1, .iconst (49), .iconst (3), .invokestatic 93, .iconst (1), .isub, .invokevirtual 20, .aload 0, .getfield 502, .iconst (80), .lload 1, .iconst (51), .iconst (1), .invokestatic 93, .invokevirtual 20, .return_]
abbrev mX5_unpack : Nat := 95
def cdX5_add : List Jvm.ClassFile.Instr := [.lload 1, .jsr_w (-7046029254386353131), .lmul, .iconst (54), .lushr, .l2i, .fstore 5, .iconst (0), .fstore 6, .iload 6, .iconst (1024), .if_icmp .ge (44), .aload 0, .getfield 507, .iload 5, .invokestatic 97, .iconst (1), .isub, .fstore 7, .iload 7, .ifCond .lt (44), .iload 7, .aload 0, .getfield 503, .arraylength, .if_icmp .lt (27), .goto (44), .aload 0, .getfield 503, .iload 7, .laload, .lload 1, .lcmp, .ifCond .ne (36), .iconst (0), .ireturn, .iload 5, .iconst (1), .iadd, .iconst (1023), .iand, .fstore 5, .iinc 6 1, .goto (9), .aload 0, .getfield 509, .ifCond .lt (53), .aload 0, .getfield 509, .aload 0, .getfield 503, .arraylength, .if_icmp .lt (55), .iconst (2), .ireturn, .aload 0, .getfield 503, .aload 0, .getfield 509, .lload 1, .lastore, .aload 0, .getfield 504, .aload 0, .getfield 509, .iload 3, .invokestatic 98, .aload 0, .getfield 505, .aload 0, .getfield 509, .iload 4, .invokestatic 98, .aload 0, .getfield 506, .aload 0, .getfield 509, .aload 0, .getfield 509, .ifCond .ne (82), .iconst (0), .goto (88), .aload 0, .getfield 506, .iload 3, .invokestatic 97, .iconst (1), .iadd, .invokestatic 98, .aload 0, .dup, .getfield 509, .iconst (1), .iadd, .putfield 509, .aload 0, .getfield 507, .iload 5, .aload 0, .getfield 509, .invokestatic 98, .iconst (0), .ireturn]
abbrev mX5_add : Nat := 96
def cdX6_at : List Jvm.ClassFile.Instr := [.aload 0, .ifnull (12), .iload 1, .ifCond .lt (12), .iload 1, .aload 0, .arraylength, .if_icmp .ge (12), .aload 0, .iload 1, .iaload, .goto (13), .iconst (0), .ireturn]
abbrev mX6_at : Nat := 97
def cdX6_put : List Jvm.ClassFile.Instr := [.aload 0, .ifnull (12), .iload 1, .ifCond .lt (12), .iload 1, .aload 0, .arraylength, .if_icmp .ge (12), .aload 0, .iload 1, .iload 2, .iastore, .return_]
abbrev mX6_put : Nat := 98
def cdX6_copy : List Jvm.ClassFile.Instr := [.aload 0, .ifnull (10), .aload 2, .ifnull (10), .iload 4, .ifCond .lt (10), .iload 1, .ifCond .lt (10), .iload 3, .ifCond .ge (11), .return_, .iload 1, .aload 0, .arraylength, .iload 4, .isub, .if_icmp .gt (29), .iload 3, .aload 2, .arraylength, .iload 4, .isub, .if_icmp .gt (29), .aload 0, .iload 1, .aload 2, .iload 3, .iload 4, .dmul, .return_]
abbrev mX6_copy : Nat := 99
def cdX7_init : List Jvm.ClassFile.Instr := [.aload 0, .dneg, .aload 0, .aload 2, .putfield 600, .aload 0, .new 2, .dup, .aload 1, .invokespecial 18, .putfield 601, .aload 0, .new 2, .dup, .aload 1, .invokespecial 18, .putfield 602, .return_]
abbrev mX7_init : Nat := 100
def cdX7_nextStart : List Jvm.ClassFile.Instr := [.aload 0, .getfield 601, .aload 0, .getfield 600, .invokevirtual 22, .aload 0, .getfield 601, .invokevirtual 28, .aload 0, .getfield 601, .iconst (0), .iload 1, .ifCond .eq (15), .iconst (1), .goto (16), .iconst (0), .iconst (0), .iconst (-1), .invokevirtual 47, .ireturn]
abbrev mX7_nextStart : Nat := 101
def cdX7_writesOf : List Jvm.ClassFile.Instr := [.aload 0, .getfield 601, .aload 0, .getfield 600, .invokevirtual 22, .aload 0, .getfield 601, .iload 1, .iload 2, .iload 3, .iconst (-1), .invokevirtual 47, .pop, .aload 0, .getfield 601, .iconst (81), .invokevirtual 19, .ireturn]
abbrev mX7_writesOf : Nat := 102
def cdX7_countCuts : List Jvm.ClassFile.Instr := [.iload 4, .ifCond .lt (12), .iload 4, .iconst (6), .if_icmp .gt (12), .aload 0, .getfield 600, .iload 1, .iload 2, .iload 3, .invokevirtual 46, .ifCond .ne (14), .iconst (-1), .ireturn, .aload 0, .iload 1, .iload 2, .iload 3, .invokevirtual 102, .istore 5, .iload 4, .ifCond .ne (24), .iload 5, .ireturn, .iload 4, .iconst (5), .if_icmp .ne (31), .aload 0, .getfield 600, .invokevirtual 36, .goto (34), .aload 0, .getfield 601, .invokevirtual 36, .istore 6, .iconst (0), .istore 7, .iconst (0), .istore 8, .iload 8, .iload 5, .if_icmp .ge (92), .aload 0, .getfield 601, .aload 0, .getfield 600, .invokevirtual 22, .aload 0, .getfield 601, .iload 1, .iload 2, .iload 3, .iload 8, .invokevirtual 47, .pop, .iload 4, .iconst (5), .if_icmp .lt (67), .aload 0, .getfield 601, .invokevirtual 36, .iload 6, .if_icmp .ne (65), .iconst (1), .goto (81), .iconst (0), .goto (81), .aload 0, .getfield 601, .iconst (0), .iconst (0), .iconst (0), .iconst (-1), .invokevirtual 47, .iload 4, .iconst (1), .isub, .if_icmp .ne (80), .iconst (1), .goto (81), .iconst (0), .istore 9, .iload 7, .iload 9, .ifCond .eq (87), .iconst (1), .goto (88), .iconst (0), .iadd, .istore 7, .iinc 8 1, .goto (39), .iload 7, .ireturn]
abbrev mX7_countCuts : Nat := 103
def cdX7_countTwos : List Jvm.ClassFile.Instr := [.aload 0, .getfield 600, .iload 1, .iload 2, .iload 3, .invokevirtual 46, .ifCond .ne (9), .iconst (-1), .ireturn, .aload 0, .iload 1, .iload 2, .iload 3, .invokevirtual 102, .istore 4, .iconst (0), .istore 5, .iconst (0), .istore 6, .iload 6, .iload 4, .if_icmp .ge (42), .aload 0, .getfield 601, .aload 0, .getfield 600, .invokevirtual 22, .aload 0, .getfield 601, .iload 1, .iload 2, .iload 3, .iload 6, .invokevirtual 47, .pop, .iload 5, .aload 0, .invokevirtual 105, .iadd, .istore 5, .iinc 6 1, .goto (19), .iload 5, .ireturn]
abbrev mX7_countTwos : Nat := 104
def cdX7_countDeadBoots : List Jvm.ClassFile.Instr := [.aload 0, .getfield 602, .aload 0, .getfield 601, .invokevirtual 22, .aload 0, .getfield 602, .iconst (0), .iconst (0), .iconst (0), .iconst (-1), .invokevirtual 47, .pop, .aload 0, .getfield 602, .iconst (81), .invokevirtual 19, .istore 1, .iconst (0), .istore 2, .iconst (0), .istore 3, .iload 3, .iload 1, .if_icmp .ge (50), .aload 0, .getfield 602, .aload 0, .getfield 601, .invokevirtual 22, .aload 0, .getfield 602, .iconst (0), .iconst (0), .iconst (0), .iload 3, .invokevirtual 47, .pop, .aload 0, .getfield 602, .iconst (0), .iconst (0), .iconst (0), .iconst (-1), .invokevirtual 47, .iconst (3), .if_icmp .ne (48), .iinc 2 1, .iinc 3 1, .goto (22), .iload 2, .ireturn]
abbrev mX7_countDeadBoots : Nat := 105
def cdX7_bootsWithoutHealth : List Jvm.ClassFile.Instr := [.iload 1, .ifCond .eq (7), .iload 1, .iconst (1), .if_icmp .eq (7), .iconst (-1), .ireturn, .aload 0, .getfield 601, .aload 0, .getfield 600, .invokevirtual 22, .iconst (1), .istore 2, .iload 2, .iconst (60), .if_icmp .gt (39), .aload 0, .getfield 601, .invokevirtual 28, .aload 0, .getfield 601, .iconst (0), .iconst (0), .iconst (0), .iconst (-1), .invokevirtual 47, .istore 3, .iload 3, .iconst (2), .if_icmp .lt (37), .iload 1, .ifCond .ne (35), .iload 2, .goto (36), .iload 3, .ireturn, .iinc 2 1, .goto (14), .iconst (-2), .ireturn]
abbrev mX7_bootsWithoutHealth : Nat := 106
def cdX7_slackBits : List Jvm.ClassFile.Instr := [.aload 0, .getfield 601, .aload 0, .getfield 600, .invokevirtual 22, .iconst (0), .istore 2, .iload 1, .iconst (14), .imul, .istore 3, .iload 3, .iload 1, .iconst (1), .iadd, .iconst (14), .imul, .if_icmp .ge (50), .iconst (0), .istore 4, .iload 4, .iconst (31), .if_icmp .ge (48), .aload 0, .getfield 601, .iload 3, .iload 4, .invokevirtual 21, .pop, .iload 2, .aload 0, .getfield 601, .iload 1, .invokevirtual 42, .ifCond .ne (37), .iconst (1), .goto (38), .iconst (0), .iadd, .istore 2, .aload 0, .getfield 601, .iload 3, .iload 4, .invokevirtual 21, .pop, .iinc 4 1, .goto (20), .iinc 3 1, .goto (11), .iload 2, .ireturn]
abbrev mX7_slackBits : Nat := 107
def cdX7_frailBits : List Jvm.ClassFile.Instr := [.iload 1, .ifCond .eq (7), .iload 1, .iconst (1), .if_icmp .eq (7), .iconst (-1), .ireturn, .aload 0, .iconst (0), .invokevirtual 101, .istore 2, .aload 0, .getfield 600, .invokevirtual 36, .istore 3, .iconst (0), .istore 4, .iconst (56), .istore 5, .iload 5, .iconst (72), .if_icmp .ge (77), .iconst (0), .istore 6, .iload 6, .iconst (8), .if_icmp .ge (75), .aload 0, .getfield 601, .aload 0, .getfield 600, .invokevirtual 22, .aload 0, .getfield 601, .invokevirtual 28, .aload 0, .getfield 601, .iload 5, .iload 6, .invokevirtual 21, .pop, .iload 1, .ifCond .ne (56), .aload 0, .getfield 601, .iconst (0), .iconst (0), .iconst (0), .iconst (-1), .invokevirtual 47, .iload 2, .if_icmp .eq (54), .iconst (1), .goto (64), .iconst (0), .goto (64), .aload 0, .getfield 601, .invokevirtual 36, .iload 3, .if_icmp .eq (63), .iconst (1), .goto (64), .iconst (0), .istore 7, .iload 4, .iload 7, .ifCond .eq (70), .iconst (1), .goto (71), .iconst (0), .iadd, .istore 4, .iinc 6 1, .goto (24), .iinc 5 1, .goto (19), .iload 4, .ireturn]
abbrev mX7_frailBits : Nat := 108
def cdX8_init : List Jvm.ClassFile.Instr := [.aload 0, .dneg, .iconst (300), .newarray .int, .astore 1, .new 0, .dup, .invokespecial 1, .astore 2, .new 0, .dup, .invokespecial 1, .astore 3, .new 2, .dup, .aload 3, .invokespecial 18, .astore 4, .aload 0, .aload 1, .putfield 700, .aload 0, .aload 2, .putfield 703, .aload 0, .new 4, .dup, .aload 1, .aload 2, .invokespecial 68, .putfield 704, .aload 0, .aload 3, .putfield 702, .aload 0, .aload 4, .putfield 705, .aload 0, .new 3, .dup, .aload 4, .invokespecial 64, .putfield 706, .aload 0, .new 6, .dup, .aload 3, .aload 4, .invokespecial 100, .putfield 707, .aload 0, .new 1, .dup, .aload 3, .aload 4, .invokespecial 11, .putfield 708, .aload 0, .new 5, .dup, .aload 3, .aload 4, .invokespecial 85, .putfield 709, .return_]
abbrev mX8_init : Nat := 109
def cdX8_feed : List Jvm.ClassFile.Instr := [.aload 0, .getfield 701, .iconst (280), .if_icmp .le (6), .iconst (-1), .ireturn, .aload 0, .iload 1, .invokevirtual 111, .aload 0, .iload 2, .invokevirtual 111, .aload 0, .iload 3, .invokevirtual 111, .aload 0, .iload 4, .invokevirtual 111, .aload 0, .iload 5, .invokevirtual 111, .aload 0, .getfield 701, .ireturn]
abbrev mX8_feed : Nat := 110
def cdX8_feedNumber : List Jvm.ClassFile.Instr := [.iconst (24), .istore 2, .iload 2, .ifCond .lt (22), .aload 0, .getfield 700, .aload 0, .getfield 701, .iload 1, .iload 2, .ishr, .iconst (255), .iand, .invokestatic 98, .aload 0, .dup, .getfield 701, .iconst (1), .iadd, .putfield 701, .iinc 2 (-8), .goto (2), .return_]
abbrev mX8_feedNumber : Nat := 111
def cdX8_end : List Jvm.ClassFile.Instr := [.iload 1, .ifCond .lt (6), .iload 1, .aload 0, .getfield 701, .if_icmp .le (8), .iconst (-1), .ireturn, .aload 0, .iload 1, .putfield 701, .iload 1, .ireturn]
abbrev mX8_end : Nat := 112
def cdX8_bundle : List Jvm.ClassFile.Instr := [.aload 0, .getfield 701, .istore 1, .aload 0, .iconst (0), .putfield 701, .aload 0, .getfield 704, .iload 1, .invokevirtual 69, .istore 2, .iload 2, .iconst (-1), .if_icmp .eq (18), .iconst (-2), .iload 2, .isub, .ireturn, .aload 0, .getfield 702, .aload 0, .getfield 703, .invokevirtual 3, .aload 0, .getfield 706, .invokevirtual 67, .aload 0, .getfield 704, .getfield 410, .ireturn]
abbrev mX8_bundle : Nat := 113
def cdX8_image : List Jvm.ClassFile.Instr := [.aload 0, .getfield 702, .iload 1, .invokevirtual 5, .ifCond .eq (10), .iload 2, .ifCond .lt (10), .iload 2, .iconst (14), .if_icmp .lt (12), .iconst (-1), .ireturn, .aload 0, .getfield 702, .getfield 7, .iload 1, .iconst (14), .imul, .iload 2, .iadd, .invokestatic 97, .ireturn]
abbrev mX8_image : Nat := 114
def cdX8_factory : List Jvm.ClassFile.Instr := [.aload 0, .getfield 705, .invokevirtual 27, .ifCond .ne (9), .aload 0, .getfield 702, .iload 1, .invokevirtual 6, .ifCond .ne (11), .iconst (0), .ireturn, .aload 0, .getfield 706, .invokevirtual 65, .aload 0, .getfield 705, .iconst (2), .iload 1, .invokevirtual 25, .aload 0, .getfield 705, .iconst (3), .iload 1, .invokevirtual 25, .iconst (1), .ireturn]
abbrev mX8_factory : Nat := 115
def cdX8_boot : List Jvm.ClassFile.Instr := [.aload 0, .iconst (0), .iload 1, .ifCond .eq (6), .iconst (1), .goto (7), .iconst (0), .iconst (0), .iload 2, .invokevirtual 123, .ireturn]
abbrev mX8_boot : Nat := 116
def cdX8_health : List Jvm.ClassFile.Instr := [.aload 0, .iconst (1), .iconst (0), .iconst (0), .iload 1, .invokevirtual 123, .ireturn]
abbrev mX8_health : Nat := 117
def cdX8_install : List Jvm.ClassFile.Instr := [.aload 0, .iconst (2), .iload 1, .iload 2, .iload 3, .invokevirtual 123, .ireturn]
abbrev mX8_install : Nat := 118
def cdX8_refresh : List Jvm.ClassFile.Instr := [.aload 0, .iconst (3), .iconst (0), .iload 1, .iload 2, .invokevirtual 123, .ireturn]
abbrev mX8_refresh : Nat := 119
def cdX8_prefer : List Jvm.ClassFile.Instr := [.aload 0, .iconst (4), .iload 1, .iconst (0), .iload 2, .invokevirtual 123, .ireturn]
abbrev mX8_prefer : Nat := 120
def cdX8_mend : List Jvm.ClassFile.Instr := [.aload 0, .iconst (5), .iconst (0), .iconst (0), .iload 1, .invokevirtual 123, .ireturn]
abbrev mX8_mend : Nat := 121
def cdX8_resume : List Jvm.ClassFile.Instr := [.aload 0, .iconst (6), .iconst (0), .iconst (0), .iload 1, .invokevirtual 123, .ireturn]
abbrev mX8_resume : Nat := 122
def cdX8_act : List Jvm.ClassFile.Instr := [.iload 4, .iconst (-1), .if_icmp .lt (10), .aload 0, .getfield 705, .iload 1, .iload 2, .iload 3, .invokevirtual 46, .ifCond .ne (12), .iconst (-1), .ireturn, .aload 0, .getfield 706, .invokevirtual 65, .aload 0, .getfield 705, .iload 1, .iload 2, .iload 3, .iload 4, .invokevirtual 47, .ireturn]
abbrev mX8_act : Nat := 123
def cdX8_waits : List Jvm.ClassFile.Instr := [.iload 1, .iconst (1), .if_icmp .lt (10), .iload 1, .iconst (200), .if_icmp .gt (10), .aload 0, .getfield 705, .invokevirtual 27, .ifCond .ne (12), .iconst (-1), .ireturn, .aload 0, .getfield 706, .invokevirtual 65, .aload 0, .getfield 705, .iload 1, .invokevirtual 63, .ireturn]
abbrev mX8_waits : Nat := 124
def cdX8_off : List Jvm.ClassFile.Instr := [.aload 0, .getfield 705, .invokevirtual 27, .ifCond .ne (6), .iconst (0), .ireturn, .aload 0, .getfield 706, .invokevirtual 65, .aload 0, .getfield 705, .invokevirtual 28, .iconst (1), .ireturn]
abbrev mX8_off : Nat := 125
def cdX8_flip : List Jvm.ClassFile.Instr := [.iload 1, .invokestatic 151, .ifCond .eq (13), .iload 2, .ifCond .lt (13), .iload 2, .iconst (14), .if_icmp .ge (13), .iload 3, .ifCond .lt (13), .iload 3, .iconst (31), .if_icmp .lt (15), .iconst (-1), .ireturn, .aload 0, .getfield 706, .invokevirtual 65, .aload 0, .getfield 705, .iload 1, .iconst (14), .imul, .iload 2, .iadd, .iload 3, .invokevirtual 21, .ireturn]
abbrev mX8_flip : Nat := 126
def cdX8_blot : List Jvm.ClassFile.Instr := [.iload 1, .invokestatic 150, .ifCond .eq (13), .iload 2, .ifCond .lt (13), .iload 2, .iconst (8), .if_icmp .ge (13), .iload 3, .ifCond .lt (13), .iload 3, .iconst (7), .if_icmp .le (15), .iconst (-1), .ireturn, .aload 0, .getfield 706, .invokevirtual 65, .aload 0, .getfield 705, .iconst (56), .iload 1, .iconst (8), .imul, .iadd, .iload 2, .iadd, .iload 3, .invokevirtual 21, .ireturn]
abbrev mX8_blot : Nat := 127
def cdX8_undo : List Jvm.ClassFile.Instr := [.aload 0, .getfield 706, .invokevirtual 66, .ireturn]
abbrev mX8_undo : Nat := 128
def cdX8_word : List Jvm.ClassFile.Instr := [.iload 1, .invokestatic 151, .ifCond .eq (8), .iload 2, .ifCond .lt (8), .iload 2, .iconst (14), .if_icmp .lt (10), .iconst (-1), .ireturn, .aload 0, .getfield 705, .iload 1, .iconst (14), .imul, .iload 2, .iadd, .invokevirtual 19, .ireturn]
abbrev mX8_word : Nat := 129
def cdX8_octet : List Jvm.ClassFile.Instr := [.iload 1, .invokestatic 150, .ifCond .eq (8), .iload 2, .ifCond .lt (8), .iload 2, .iconst (8), .if_icmp .lt (10), .iconst (-1), .ireturn, .aload 0, .getfield 705, .iconst (56), .iload 1, .iconst (8), .imul, .iadd, .iload 2, .iadd, .invokevirtual 19, .ireturn]
abbrev mX8_octet : Nat := 130
def cdX8_journal : List Jvm.ClassFile.Instr := [.iload 1, .ifCond .lt (5), .iload 1, .iconst (3), .if_icmp .le (7), .iconst (-1), .ireturn, .aload 0, .getfield 705, .iconst (72), .iload 1, .iadd, .invokevirtual 19, .ireturn]
abbrev mX8_journal : Nat := 131
def cdX8_revoked : List Jvm.ClassFile.Instr := [.aload 0, .getfield 702, .iload 1, .invokevirtual 4, .ifCond .ne (7), .iconst (-1), .ireturn, .aload 0, .getfield 705, .iload 1, .invokevirtual 40, .ifCond .eq (14), .iconst (1), .goto (15), .iconst (0), .ireturn]
abbrev mX8_revoked : Nat := 132
def cdX8_whole : List Jvm.ClassFile.Instr := [.iload 1, .invokestatic 150, .ifCond .ne (5), .iconst (-1), .ireturn, .aload 0, .getfield 705, .iload 1, .invokevirtual 29, .ifCond .eq (12), .iconst (1), .goto (13), .iconst (0), .ireturn]
abbrev mX8_whole : Nat := 133
def cdX8_flag : List Jvm.ClassFile.Instr := [.iload 1, .invokestatic 149, .ifCond .ne (5), .iconst (-1), .ireturn, .aload 0, .getfield 705, .invokevirtual 32, .aload 0, .getfield 705, .iload 1, .invokevirtual 34, .istore 3, .iload 2, .tableswitch (29) (0) (2) #[15, 19, 25], .iload 3, .iconst (4), .ishr, .ireturn, .iload 3, .iconst (1), .ishr, .iconst (7), .iand, .ireturn, .iload 3, .iconst (1), .iand, .ireturn, .iconst (-1), .ireturn]
abbrev mX8_flag : Nat := 134
def cdX8_why : List Jvm.ClassFile.Instr := [.iload 1, .invokestatic 151, .ifCond .eq (8), .aload 0, .getfield 705, .iload 1, .invokevirtual 42, .goto (9), .iconst (-1), .ireturn]
abbrev mX8_why : Nat := 135
def cdX8_next : List Jvm.ClassFile.Instr := [.aload 0, .getfield 707, .iload 1, .invokevirtual 101, .ireturn]
abbrev mX8_next : Nat := 136
def cdX8_cuts : List Jvm.ClassFile.Instr := [.aload 0, .getfield 707, .iload 1, .iload 2, .iload 3, .iload 4, .invokevirtual 103, .ireturn]
abbrev mX8_cuts : Nat := 137
def cdX8_twice : List Jvm.ClassFile.Instr := [.aload 0, .getfield 707, .iload 1, .iload 2, .iload 3, .invokevirtual 104, .ireturn]
abbrev mX8_twice : Nat := 138
def cdX8_lasts : List Jvm.ClassFile.Instr := [.aload 0, .getfield 707, .iload 1, .invokevirtual 106, .ireturn]
abbrev mX8_lasts : Nat := 139
def cdX8_slack : List Jvm.ClassFile.Instr := [.iload 1, .invokestatic 151, .ifCond .eq (8), .aload 0, .getfield 707, .iload 1, .invokevirtual 107, .goto (9), .iconst (-1), .ireturn]
abbrev mX8_slack : Nat := 140
def cdX8_frail : List Jvm.ClassFile.Instr := [.aload 0, .getfield 707, .iload 1, .invokevirtual 108, .ireturn]
abbrev mX8_frail : Nat := 141
def cdX8_route : List Jvm.ClassFile.Instr := [.iload 1, .ifCond .lt (8), .iload 1, .iconst (31), .if_icmp .ge (8), .iload 2, .iconst (-1), .if_icmp .ge (10), .iconst (-1), .ireturn, .aload 0, .getfield 709, .iload 1, .invokevirtual 89, .istore 3, .iload 3, .iconst (1), .if_icmp .ne (23), .aload 0, .getfield 709, .iload 2, .invokevirtual 86, .ireturn, .iload 3, .iconst (2), .if_icmp .ne (28), .iconst (-3), .goto (29), .iconst (-2), .ireturn]
abbrev mX8_route : Nat := 142
def cdX8_draws : List Jvm.ClassFile.Instr := [.iload 1, .ifCond .ge (4), .iconst (-1), .ireturn, .aload 0, .getfield 710, .istore 2, .aload 0, .iload 1, .putfield 710, .iload 2, .ireturn]
abbrev mX8_draws : Nat := 143
def cdX8_life : List Jvm.ClassFile.Instr := [.iload 1, .iconst (1), .if_icmp .lt (10), .iload 1, .iconst (60), .if_icmp .gt (10), .aload 0, .getfield 702, .getfield 1, .ifCond .ne (12), .iconst (-1), .ireturn, .aload 0, .getfield 708, .iload 1, .iload 2, .aload 0, .getfield 710, .invokevirtual 12, .ireturn]
abbrev mX8_life : Nat := 144
def cdX8_started : List Jvm.ClassFile.Instr := [.aload 0, .getfield 705, .iconst (82), .invokevirtual 19, .istore 3, .iload 1, .ifCond .lt (18), .iload 1, .iconst (12), .if_icmp .ge (18), .iload 1, .iload 3, .if_icmp .ge (18), .iload 2, .ifCond .lt (18), .iload 2, .iconst (1), .if_icmp .le (20), .iconst (-1), .ireturn, .aload 0, .getfield 705, .iconst (83), .iconst (2), .iload 3, .iconst (1), .isub, .iload 1, .isub, .iconst (12), .irem, .imul, .iadd, .iload 2, .iadd, .invokevirtual 19, .ireturn]
abbrev mX8_started : Nat := 145
def cdX8_least : List Jvm.ClassFile.Instr := [.iload 1, .ifCond .eq (7), .iload 1, .iconst (1), .if_icmp .eq (7), .iconst (-1), .ireturn, .aload 0, .getfield 705, .iconst (0), .invokevirtual 42, .ifCond .ne (14), .iconst (1), .goto (15), .iconst (0), .istore 2, .aload 0, .getfield 705, .iconst (1), .invokevirtual 42, .ifCond .ne (23), .iconst (1), .goto (24), .iconst (0), .istore 3, .iload 2, .ifCond .ne (31), .iload 3, .ifCond .ne (31), .iconst (-2), .ireturn, .aload 0, .getfield 705, .iload 2, .ifCond .eq (37), .iconst (0), .goto (38), .iconst (1), .invokevirtual 41, .istore 4, .aload 0, .getfield 705, .iload 3, .ifCond .eq (46), .iconst (1), .goto (47), .iconst (0), .invokevirtual 41, .istore 5, .iload 1, .ifCond .ne (55), .iload 4, .iload 5, .dadd, .goto (58), .iload 4, .iload 5, .dsub, .ireturn]
abbrev mX8_least : Nat := 146
def cdX8_count : List Jvm.ClassFile.Instr := [.iload 1, .tableswitch (70) (0) (18) #[2, 6, 10, 14, 18, 23, 28, 70, 70, 70, 70, 33, 37, 40, 43, 48, 52, 57, 62], .aload 0, .getfield 702, .getfield 0, .ireturn, .aload 0, .getfield 702, .getfield 1, .ireturn, .aload 0, .getfield 702, .getfield 2, .ireturn, .aload 0, .getfield 702, .getfield 3, .ireturn, .aload 0, .getfield 705, .iconst (76), .invokevirtual 19, .ireturn, .aload 0, .getfield 705, .iconst (77), .invokevirtual 19, .ireturn, .aload 0, .getfield 705, .iconst (78), .invokevirtual 19, .ireturn, .aload 0, .getfield 706, .getfield 303, .ireturn, .aload 0, .getfield 710, .ireturn, .aload 0, .getfield 701, .ireturn, .aload 0, .getfield 705, .iconst (81), .invokevirtual 19, .ireturn, .aload 0, .getfield 702, .getfield 4, .ireturn, .aload 0, .getfield 705, .iconst (79), .invokevirtual 19, .ireturn, .aload 0, .getfield 705, .iconst (80), .invokevirtual 19, .ireturn, .aload 0, .getfield 705, .invokevirtual 45, .ifCond .eq (68), .iconst (1), .goto (69), .iconst (0), .ireturn, .aload 0, .iload 1, .invokevirtual 148, .ireturn]
abbrev mX8_count : Nat := 147
def cdX8_countOfFlags : List Jvm.ClassFile.Instr := [.aload 0, .getfield 705, .invokevirtual 32, .iload 1, .tableswitch (31) (7) (10) #[5, 9, 13, 17], .aload 0, .getfield 705, .getfield 204, .ireturn, .aload 0, .getfield 705, .getfield 205, .ireturn, .aload 0, .getfield 705, .getfield 206, .ireturn, .aload 0, .getfield 705, .getfield 206, .iconst (-1), .if_icmp .ne (24), .iconst (-1), .goto (30), .aload 0, .getfield 705, .aload 0, .getfield 705, .getfield 206, .invokevirtual 30, .ireturn, .iconst (-1), .ireturn]
abbrev mX8_countOfFlags : Nat := 148
def cdX8_isSlot : List Jvm.ClassFile.Instr := [.iload 0, .ifCond .eq (5), .iload 0, .iconst (1), .if_icmp .ne (7), .iconst (1), .goto (8), .iconst (0), .ireturn]
abbrev mX8_isSlot : Nat := 149
def cdX8_isPage : List Jvm.ClassFile.Instr := [.iload 0, .ifCond .eq (5), .iload 0, .iconst (1), .if_icmp .ne (7), .iconst (1), .goto (8), .iconst (0), .ireturn]
abbrev mX8_isPage : Nat := 150
def cdX8_isStore : List Jvm.ClassFile.Instr := [.iload 0, .ifCond .lt (7), .iload 0, .iconst (4), .if_icmp .ge (7), .iconst (1), .goto (8), .iconst (0), .ireturn]
abbrev mX8_isStore : Nat := 151
def cdX9_init : List Jvm.ClassFile.Instr := [.aload 0, .dneg, .aload 0, .iconst (300), .newarray .byte, .putfield 800, .aload 0, .iconst (6), .newarray .int, .putfield 810, .aload 0, .iconst (6), .newarray .int, .putfield 811, .aload 0, .iconst (7), .newarray .int, .putfield 812, .aload 0, .iconst (7), .newarray .int, .putfield 813, .aload 0, .iconst (84), .newarray .int, .putfield 814, .aload 0, .iconst (98), .newarray .int, .putfield 815, .aload 0, .iconst (5), .newarray .int, .dup, .iconst (0), .iconst (0), .iastore, .dup, .iconst (1), .iconst (0), .iastore, .dup, .iconst (2), .iconst (3), .iastore, .dup, .iconst (3), .iconst (3), .iastore, .dup, .iconst (4), .iconst (20), .iastore, .putfield 816, .aload 0, .iconst (5), .newarray .int, .putfield 817, .aload 0, .iconst (107), .newarray .int, .putfield 818, .aload 0, .iconst (1284), .newarray .int, .putfield 819, .aload 0, .iconst (321), .newarray .int, .putfield 820, .aload 0, .iconst (8), .newarray .int, .putfield 825, .aload 0, .iconst (8), .newarray .int, .putfield 826, .aload 0, .iconst (14), .newarray .int, .putfield 827, .aload 0, .iconst (8), .newarray .int, .putfield 828, .aload 0, .iconst (8), .newarray .int, .putfield 829, .aload 0, .iconst (32100), .newarray .int, .putfield 830, .aload 0, .iconst (20468), .newarray .int, .putfield 831, .aload 0, .iconst (301), .newarray .int, .putfield 832, .aload 0, .iconst (301), .newarray .int, .putfield 833, .iconst (0), .istore 1, .iload 1, .iconst (20), .if_icmp .ge (120), .aload 0, .getfield 818, .iconst (56), .iload 1, .iadd, .iconst (255), .iastore, .iinc 1 1, .goto (108), .aload 0, .getfield 818, .iconst (78), .iconst (-1), .iastore, .return_]
abbrev mX9_init : Nat := 152
def cdX9_in : List Jvm.ClassFile.Instr := [.lload 0, .lload 2, .lcmp, .ifCond .lt (10), .lload 0, .lload 4, .lcmp, .ifCond .gt (10), .iconst (1), .goto (11), .iconst (0), .ireturn]
abbrev mX9_in : Nat := 153
def cdX9_truth : List Jvm.ClassFile.Instr := [.iload 0, .ifCond .eq (4), .iconst (1), .goto (5), .iconst (0), .ireturn]
abbrev mX9_truth : Nat := 154
def cdX9_feed : List Jvm.ClassFile.Instr := [.aload 0, .getfield 801, .iconst (20), .iadd, .iconst (300), .if_icmp .le (8), .iconst (-1), .ireturn, .aload 0, .iload 1, .invokevirtual 156, .aload 0, .iload 2, .invokevirtual 156, .aload 0, .iload 3, .invokevirtual 156, .aload 0, .iload 4, .invokevirtual 156, .aload 0, .iload 5, .invokevirtual 156, .aload 0, .getfield 801, .ireturn]
abbrev mX9_feed : Nat := 155
def cdX9_puts : List Jvm.ClassFile.Instr := [.iconst (24), .istore 2, .iload 2, .ifCond .lt (21), .aload 0, .getfield 800, .aload 0, .getfield 801, .iload 1, .iload 2, .ishr, .i2b, .bastore, .aload 0, .dup, .getfield 801, .iconst (1), .iadd, .putfield 801, .iinc 2 (-8), .goto (2), .return_]
abbrev mX9_puts : Nat := 156
def cdX9_end : List Jvm.ClassFile.Instr := [.iload 1, .ifCond .lt (6), .iload 1, .aload 0, .getfield 801, .if_icmp .le (8), .iconst (-1), .ireturn, .aload 0, .iload 1, .putfield 801, .iload 1, .ireturn]
abbrev mX9_end : Nat := 157
def cdX9_fails : List Jvm.ClassFile.Instr := [.aload 0, .getfield 803, .iconst (-1), .if_icmp .ne (11), .aload 0, .iconst (8), .iload 2, .imul, .iload 1, .iadd, .putfield 803, .return_]
abbrev mX9_fails : Nat := 158
def cdX9_isRight : List Jvm.ClassFile.Instr := [.aload 0, .getfield 803, .iconst (-1), .if_icmp .ne (6), .iconst (1), .goto (7), .iconst (0), .ireturn]
abbrev mX9_isRight : Nat := 159
def cdX9_sign : List Jvm.ClassFile.Instr := [.aload 0, .getfield 802, .aload 0, .getfield 801, .if_icmp .ge (13), .aload 0, .getfield 800, .aload 0, .getfield 802, .baload, .iconst (255), .iand, .goto (14), .iconst (-1), .ireturn]
abbrev mX9_sign : Nat := 160
def cdX9_nextSign : List Jvm.ClassFile.Instr := [.aload 0, .invokevirtual 160, .iconst (32), .if_icmp .ne (11), .aload 0, .dup, .getfield 802, .iconst (1), .iadd, .putfield 802, .goto (0), .aload 0, .invokevirtual 160, .ireturn]
abbrev mX9_nextSign : Nat := 161
def cdX9_wordOf : List Jvm.ClassFile.Instr := [.iload 0, .tableswitch (16) (0) (6) #[2, 4, 6, 8, 10, 12, 14], .ldc 8, .areturn, .ldc 9, .areturn, .ldc 10, .areturn, .ldc 11, .areturn, .ldc 12, .areturn, .ldc 13, .areturn, .ldc 14, .areturn, .ldc 15, .areturn]
abbrev mX9_wordOf : Nat := 162
def cdX9_wordLength : List Jvm.ClassFile.Instr := [.iconst (0), .istore 1, .aload 0, .getfield 802, .iload 1, .iadd, .aload 0, .getfield 801, .if_icmp .ge (23), .aload 0, .getfield 800, .aload 0, .getfield 802, .iload 1, .iadd, .baload, .i2l, .jsr_w (97), .jsr_w (122), .invokestatic 153, .ifCond .eq (23), .iinc 1 1, .goto (2), .iload 1, .ireturn]
abbrev mX9_wordLength : Nat := 163
def cdX9_isWord : List Jvm.ClassFile.Instr := [.aload 0, .invokevirtual 161, .pop, .aload 0, .invokevirtual 163, .iload 1, .invokestatic 162, .ddiv, .if_icmp .ne (11), .iconst (1), .goto (12), .iconst (0), .istore 2, .iconst (0), .istore 3, .iload 3, .iload 1, .invokestatic 162, .ddiv, .if_icmp .ge (40), .iload 2, .ifCond .eq (40), .aload 0, .getfield 800, .aload 0, .getfield 802, .iload 3, .iadd, .baload, .iload 1, .invokestatic 162, .iload 3, .drem, .if_icmp .ne (36), .iconst (1), .goto (37), .iconst (0), .istore 2, .iinc 3 1, .goto (15), .iload 2, .ireturn]
abbrev mX9_isWord : Nat := 164
def cdX9_takes : List Jvm.ClassFile.Instr := [.aload 0, .invokevirtual 159, .ifCond .eq (9), .aload 0, .iload 1, .invokevirtual 164, .ifCond .eq (9), .iconst (1), .goto (10), .iconst (0), .istore 2, .aload 0, .dup, .getfield 802, .iload 2, .ifCond .eq (20), .iload 1, .invokestatic 162, .ddiv, .goto (21), .iconst (0), .iadd, .putfield 802, .iload 2, .ireturn]
abbrev mX9_takes : Nat := 165
def cdX9_isDigit : List Jvm.ClassFile.Instr := [.aload 0, .invokevirtual 160, .i2l, .jsr_w (48), .jsr_w (57), .invokestatic 153, .ireturn]
abbrev mX9_isDigit : Nat := 166
def cdX9_number : List Jvm.ClassFile.Instr := [.aload 0, .invokevirtual 161, .pop, .aload 0, .aload 0, .getfield 802, .putfield 804, .aload 0, .invokevirtual 159, .ifCond .eq (18), .aload 0, .invokevirtual 166, .ifCond .ne (18), .aload 0, .iconst (1), .aload 0, .getfield 802, .invokevirtual 158, .iconst (0), .istore 3, .aload 0, .invokevirtual 159, .ifCond .eq (44), .aload 0, .invokevirtual 166, .ifCond .eq (44), .iconst (1000000), .iconst (10), .iload 3, .imul, .aload 0, .invokevirtual 160, .iadd, .iconst (48), .isub, .dadd, .istore 3, .aload 0, .dup, .getfield 802, .iconst (1), .iadd, .putfield 802, .goto (20), .aload 0, .invokevirtual 159, .ifCond .eq (60), .iload 3, .i2l, .iload 1, .i2l, .iload 2, .i2l, .invokestatic 153, .ifCond .ne (60), .aload 0, .iconst (2), .aload 0, .getfield 804, .invokevirtual 158, .iload 3, .ireturn]
abbrev mX9_number : Nat := 167
def cdX9_readsKey : List Jvm.ClassFile.Instr := [.aload 0, .getfield 807, .iconst (6), .if_icmp .ne (8), .aload 0, .iconst (3), .iload 1, .invokevirtual 158, .aload 0, .getfield 812, .aload 0, .getfield 807, .aload 0, .iconst (0), .iconst (9999), .invokevirtual 167, .iastore, .aload 0, .getfield 813, .aload 0, .getfield 807, .aload 0, .iconst (5), .invokevirtual 165, .ifCond .eq (33), .aload 0, .iconst (0), .aload 0, .getfield 807, .iconst (1), .isub, .invokevirtual 167, .goto (34), .iconst (-1), .iastore, .aload 0, .dup, .getfield 807, .iconst (1), .iadd, .putfield 807, .return_]
abbrev mX9_readsKey : Nat := 168
def cdX9_digestOf : List Jvm.ClassFile.Instr := [.lload 0, .jsr_w (527), .ladd, .jsr_w (31), .lmul, .lload 2, .ladd, .jsr_w (65536), .lrem, .l2i, .ireturn]
abbrev mX9_digestOf : Nat := 169
def cdX9_signOf : List Jvm.ClassFile.Instr := [.iload 0, .iconst (7), .iadd, .i2l, .lstore 3, .iconst (0), .fstore 5, .iload 5, .iconst (5), .if_icmp .ge (25), .lload 3, .jsr_w (31), .lmul, .aload 1, .iload 2, .iload 5, .iadd, .iaload, .i2l, .ladd, .jsr_w (65536), .lrem, .lstore 3, .iinc 5 1, .goto (7), .lload 3, .l2i, .ireturn]
abbrev mX9_signOf : Nat := 170
def cdX9_readsRevoked : List Jvm.ClassFile.Instr := [.iconst (0), .istore 2, .iconst (1), .istore 3, .iload 3, .ifCond .eq (62), .aload 0, .invokevirtual 159, .ifCond .eq (62), .aload 0, .iconst (0), .aload 0, .getfield 807, .iconst (1), .isub, .invokevirtual 167, .istore 4, .iload 2, .iconst (4), .if_icmp .ne (25), .aload 0, .iconst (4), .aload 0, .getfield 804, .invokevirtual 158, .aload 0, .getfield 815, .iload 1, .iconst (2), .iadd, .dup2, .iaload, .aload 0, .invokevirtual 159, .ifCond .eq (39), .iconst (1), .iload 4, .ishl, .goto (40), .iconst (0), .ior, .iastore, .iinc 2 1, .aload 0, .invokevirtual 159, .ifCond .eq (52), .aload 0, .invokevirtual 161, .iconst (44), .if_icmp .ne (52), .iconst (1), .goto (53), .iconst (0), .istore 3, .aload 0, .dup, .getfield 802, .iload 3, .invokestatic 154, .iadd, .putfield 802, .goto (4), .return_]
abbrev mX9_readsRevoked : Nat := 171
def cdX9_readsParts : List Jvm.ClassFile.Instr := [.iconst (0), .istore 2, .iconst (1), .istore 3, .iload 3, .ifCond .eq (51), .aload 0, .invokevirtual 159, .ifCond .eq (51), .aload 0, .iconst (0), .iconst (99999), .invokevirtual 167, .istore 4, .iload 2, .iconst (4), .if_icmp .ne (22), .aload 0, .iconst (4), .aload 0, .getfield 804, .invokevirtual 158, .aload 0, .invokevirtual 159, .ifCond .eq (37), .aload 0, .getfield 815, .iload 1, .iconst (6), .iadd, .iconst (2), .iload 2, .imul, .iadd, .iload 4, .iastore, .iinc 2 1, .aload 0, .invokevirtual 161, .pop, .aload 0, .invokevirtual 159, .ifCond .eq (48), .aload 0, .invokevirtual 166, .ifCond .eq (48), .iconst (1), .goto (49), .iconst (0), .istore 3, .goto (4), .aload 0, .getfield 815, .iload 1, .iconst (3), .iadd, .iload 2, .iastore, .iconst (0), .istore 4, .iload 2, .iconst (1), .isub, .istore 5, .iload 5, .ifCond .lt (94), .aload 0, .getfield 815, .iload 1, .iconst (7), .iadd, .iconst (2), .iload 5, .imul, .iadd, .iload 4, .iastore, .aload 0, .getfield 815, .iload 1, .iconst (6), .iadd, .iconst (2), .iload 5, .imul, .iadd, .iaload, .i2l, .iload 4, .i2l, .invokestatic 169, .istore 4, .iinc 5 (-1), .goto (64), .aload 0, .getfield 815, .iload 1, .iconst (4), .iadd, .iload 4, .iastore, .return_]
abbrev mX9_readsParts : Nat := 172
def cdX9_readsImage : List Jvm.ClassFile.Instr := [.aload 0, .getfield 808, .iconst (6), .if_icmp .ne (8), .aload 0, .iconst (3), .iload 1, .invokevirtual 158, .iconst (14), .aload 0, .getfield 808, .imul, .istore 2, .iconst (0), .istore 3, .iload 3, .iconst (14), .if_icmp .ge (27), .aload 0, .getfield 815, .iload 2, .iload 3, .iadd, .iconst (0), .iastore, .iinc 3 1, .goto (15), .aload 0, .getfield 815, .iload 2, .aload 0, .iconst (0), .iconst (30), .invokevirtual 167, .iconst (1), .iadd, .iastore, .aload 0, .getfield 815, .iload 2, .iconst (1), .iadd, .aload 0, .invokevirtual 159, .ifCond .eq (53), .aload 0, .iconst (0), .aload 0, .getfield 807, .iconst (1), .isub, .invokevirtual 167, .goto (54), .iconst (0), .iastore, .aload 0, .iconst (6), .invokevirtual 165, .ifCond .eq (62), .aload 0, .iload 2, .invokevirtual 171, .aload 0, .invokevirtual 159, .ifCond .eq (74), .aload 0, .iconst (7), .invokevirtual 165, .ifCond .ne (74), .aload 0, .iconst (1), .aload 0, .getfield 802, .invokevirtual 158, .aload 0, .invokevirtual 159, .ifCond .eq (80), .aload 0, .iload 2, .invokevirtual 172, .aload 0, .invokevirtual 159, .ifCond .eq (102), .aload 0, .getfield 815, .iload 2, .iconst (5), .iadd, .aload 0, .getfield 812, .aload 0, .getfield 815, .iload 2, .iconst (1), .iadd, .iaload, .iaload, .aload 0, .getfield 815, .iload 2, .invokestatic 170, .iastore, .aload 0, .dup, .getfield 808, .iconst (1), .iadd, .putfield 808, .return_]
abbrev mX9_readsImage : Nat := 173
def cdX9_readsSetting : List Jvm.ClassFile.Instr := [.aload 0, .getfield 809, .iload 1, .ishr, .iconst (1), .iand, .iconst (1), .if_icmp .ne (12), .aload 0, .iconst (3), .iload 2, .invokevirtual 158, .aload 0, .dup, .getfield 809, .iconst (1), .iload 1, .ishl, .ior, .putfield 809, .aload 0, .getfield 817, .iload 1, .aload 0, .iconst (1), .iload 1, .iconst (2), .if_icmp .ne (30), .iconst (9), .goto (36), .iload 1, .iconst (3), .if_icmp .ne (35), .iconst (7), .goto (36), .iconst (99), .invokevirtual 167, .iastore, .return_]
abbrev mX9_readsSetting : Nat := 174
def cdX9_readsLine : List Jvm.ClassFile.Instr := [.aload 0, .invokevirtual 161, .pop, .aload 0, .getfield 802, .istore 1, .aload 0, .iconst (0), .invokevirtual 165, .ifCond .eq (14), .aload 0, .iload 1, .invokevirtual 168, .goto (53), .aload 0, .iconst (1), .invokevirtual 165, .ifCond .eq (22), .aload 0, .iload 1, .invokevirtual 173, .goto (53), .aload 0, .iconst (2), .invokevirtual 165, .ifCond .eq (31), .aload 0, .iconst (2), .iload 1, .invokevirtual 174, .goto (53), .aload 0, .iconst (3), .invokevirtual 165, .ifCond .eq (40), .aload 0, .iconst (3), .iload 1, .invokevirtual 174, .goto (53), .aload 0, .iconst (4), .invokevirtual 165, .ifCond .eq (49), .aload 0, .iconst (4), .iload 1, .invokevirtual 174, .goto (53), .aload 0, .iconst (1), .iload 1, .invokevirtual 158, .return_]
abbrev mX9_readsLine : Nat := 175
def cdX9_bundle : List Jvm.ClassFile.Instr := [.aload 0, .iconst (0), .putfield 802, .aload 0, .iconst (-1), .putfield 803, .aload 0, .iconst (0), .putfield 807, .aload 0, .iconst (0), .putfield 808, .aload 0, .iconst (0), .putfield 809, .aload 0, .getfield 817, .iconst (2), .iconst (3), .iastore, .aload 0, .getfield 817, .iconst (3), .iconst (3), .iastore, .aload 0, .getfield 817, .iconst (4), .iconst (20), .iastore, .iconst (0), .istore 1, .iconst (1), .istore 2, .iload 2, .ifCond .eq (58), .aload 0, .invokevirtual 175, .iinc 1 1, .aload 0, .invokevirtual 159, .ifCond .eq (48), .aload 0, .invokevirtual 161, .iconst (59), .if_icmp .ne (48), .iconst (1), .goto (49), .iconst (0), .istore 2, .aload 0, .dup, .getfield 802, .iload 2, .invokestatic 154, .iadd, .putfield 802, .goto (34), .aload 0, .invokevirtual 159, .ifCond .eq (70), .aload 0, .invokevirtual 161, .iconst (-1), .if_icmp .eq (70), .aload 0, .iconst (1), .aload 0, .getfield 802, .invokevirtual 158, .aload 0, .iconst (0), .putfield 801, .aload 0, .invokevirtual 159, .ifCond .ne (81), .iconst (-2), .aload 0, .getfield 803, .isub, .ireturn, .aload 0, .invokevirtual 177, .iload 1, .ireturn]
abbrev mX9_bundle : Nat := 176
def cdX9_copiesBundle : List Jvm.ClassFile.Instr := [.aload 0, .aload 0, .getfield 807, .putfield 805, .aload 0, .aload 0, .getfield 808, .putfield 806, .iconst (0), .istore 1, .iload 1, .aload 0, .getfield 805, .if_icmp .ge (32), .aload 0, .getfield 810, .iload 1, .aload 0, .getfield 812, .iload 1, .iaload, .iastore, .aload 0, .getfield 811, .iload 1, .aload 0, .getfield 813, .iload 1, .iaload, .iastore, .iinc 1 1, .goto (10), .iconst (0), .istore 1, .iload 1, .iconst (14), .aload 0, .getfield 806, .imul, .if_icmp .ge (50), .aload 0, .getfield 814, .iload 1, .aload 0, .getfield 815, .iload 1, .iaload, .iastore, .iinc 1 1, .goto (34), .iconst (2), .istore 1, .iload 1, .iconst (4), .if_icmp .gt (65), .aload 0, .getfield 816, .iload 1, .aload 0, .getfield 817, .iload 1, .iaload, .iastore, .iinc 1 1, .goto (52), .aload 0, .iconst (0), .putfield 821, .return_]
abbrev mX9_copiesBundle : Nat := 177
def cdX9_isImage : List Jvm.ClassFile.Instr := [.iload 1, .i2l, .jsr_w (0), .aload 0, .getfield 806, .iconst (1), .isub, .i2l, .invokestatic 153, .ireturn]
abbrev mX9_isImage : Nat := 178
def cdX9_image : List Jvm.ClassFile.Instr := [.aload 0, .iload 1, .invokevirtual 178, .ifCond .eq (19), .iload 2, .i2l, .jsr_w (0), .jsr_w (13), .invokestatic 153, .ifCond .eq (19), .aload 0, .getfield 814, .iconst (14), .iload 1, .imul, .iload 2, .iadd, .iaload, .goto (20), .iconst (-1), .ireturn]
abbrev mX9_image : Nat := 179
def cdX9_keepsIn : List Jvm.ClassFile.Instr := [.iconst (0), .istore 3, .iload 3, .iconst (107), .if_icmp .ge (16), .aload 1, .iload 2, .iload 3, .iadd, .aload 0, .getfield 818, .iload 3, .iaload, .iastore, .iinc 3 1, .goto (2), .return_]
abbrev mX9_keepsIn : Nat := 180
def cdX9_laysFrom : List Jvm.ClassFile.Instr := [.iconst (0), .istore 3, .iload 3, .iconst (107), .if_icmp .ge (16), .aload 0, .getfield 818, .iload 3, .aload 1, .iload 2, .iload 3, .iadd, .iaload, .iastore, .iinc 3 1, .goto (2), .return_]
abbrev mX9_laysFrom : Nat := 181
def cdX9_remembers : List Jvm.ClassFile.Instr := [.aload 0, .getfield 821, .iconst (12), .if_icmp .ne (27), .iconst (107), .istore 1, .iload 1, .iconst (1284), .if_icmp .ge (21), .aload 0, .getfield 819, .iload 1, .iconst (107), .isub, .aload 0, .getfield 819, .iload 1, .iaload, .iastore, .iinc 1 1, .goto (6), .aload 0, .dup, .getfield 821, .iconst (1), .isub, .putfield 821, .aload 0, .aload 0, .getfield 819, .iconst (107), .aload 0, .getfield 821, .imul, .invokevirtual 180, .aload 0, .dup, .getfield 821, .iconst (1), .iadd, .putfield 821, .return_]
abbrev mX9_remembers : Nat := 182
def cdX9_undo : List Jvm.ClassFile.Instr := [.aload 0, .getfield 821, .ifCond .ne (5), .iconst (-1), .ireturn, .aload 0, .dup, .getfield 821, .iconst (1), .isub, .putfield 821, .aload 0, .aload 0, .getfield 819, .iconst (107), .aload 0, .getfield 821, .imul, .invokevirtual 181, .aload 0, .getfield 821, .ireturn]
abbrev mX9_undo : Nat := 183
def cdX9_isOff : List Jvm.ClassFile.Instr := [.aload 0, .getfield 818, .iconst (78), .iaload, .iconst (-1), .if_icmp .ne (8), .iconst (1), .goto (9), .iconst (0), .ireturn]
abbrev mX9_isOff : Nat := 184
def cdX9_isSlotRunning : List Jvm.ClassFile.Instr := [.aload 0, .getfield 818, .iconst (78), .iaload, .ifCond .eq (11), .aload 0, .getfield 818, .iconst (78), .iaload, .iconst (1), .if_icmp .ne (13), .iconst (1), .goto (14), .iconst (0), .ireturn]
abbrev mX9_isSlotRunning : Nat := 185
def cdX9_begins : List Jvm.ClassFile.Instr := [.aload 0, .iload 1, .putfield 822, .aload 0, .iconst (0), .putfield 823, .aload 0, .iconst (0), .putfield 824, .return_]
abbrev mX9_begins : Nat := 186
def cdX9_canWrite : List Jvm.ClassFile.Instr := [.aload 0, .getfield 824, .ifCond .ne (14), .aload 0, .getfield 822, .ifCond .ne (14), .aload 0, .iconst (1), .putfield 824, .aload 0, .getfield 818, .iconst (78), .iconst (-1), .iastore, .aload 0, .getfield 824, .ifCond .eq (19), .iconst (0), .ireturn, .aload 0, .dup, .getfield 822, .aload 0, .getfield 822, .ifCond .le (27), .iconst (1), .goto (28), .iconst (0), .isub, .putfield 822, .aload 0, .dup, .getfield 823, .iconst (1), .iadd, .putfield 823, .iconst (1), .ireturn]
abbrev mX9_canWrite : Nat := 187
def cdX9_writes : List Jvm.ClassFile.Instr := [.aload 0, .invokevirtual 187, .ifCond .eq (8), .aload 0, .getfield 818, .iload 1, .iload 2, .iastore, .return_]
abbrev mX9_writes : Nat := 188
def cdX9_pageAt : List Jvm.ClassFile.Instr := [.iconst (56), .iconst (8), .iload 0, .imul, .iadd, .ireturn]
abbrev mX9_pageAt : Nat := 189
def cdX9_checkOf : List Jvm.ClassFile.Instr := [.iconst (0), .istore 2, .iconst (0), .istore 3, .iload 3, .iconst (6), .if_icmp .ge (23), .iload 2, .iload 3, .iconst (1), .iadd, .aload 0, .getfield 818, .iload 1, .invokestatic 189, .iload 3, .iadd, .iaload, .imul, .iadd, .istore 2, .iinc 3 1, .goto (4), .iload 2, .ireturn]
abbrev mX9_checkOf : Nat := 190
def cdX9_isWhole : List Jvm.ClassFile.Instr := [.iload 1, .invokestatic 189, .istore 2, .aload 0, .getfield 818, .iload 2, .iaload, .iconst (165), .if_icmp .ne (30), .aload 0, .getfield 818, .iload 2, .iconst (6), .iadd, .iaload, .iconst (256), .imul, .aload 0, .getfield 818, .iload 2, .iconst (7), .iadd, .iaload, .iadd, .aload 0, .iload 1, .invokevirtual 190, .if_icmp .ne (30), .iconst (1), .goto (31), .iconst (0), .ireturn]
abbrev mX9_isWhole : Nat := 191
def cdX9_newest : List Jvm.ClassFile.Instr := [.aload 0, .iconst (0), .invokevirtual 191, .istore 1, .aload 0, .iconst (1), .invokevirtual 191, .istore 2, .iload 1, .ifCond .eq (35), .iload 2, .ifCond .eq (35), .aload 0, .getfield 818, .iconst (1), .invokestatic 189, .iconst (1), .iadd, .iaload, .aload 0, .getfield 818, .iconst (0), .invokestatic 189, .iconst (1), .iadd, .iaload, .iconst (1), .iadd, .iconst (256), .irem, .if_icmp .ne (33), .iconst (1), .goto (34), .iconst (0), .ireturn, .iload 1, .ifCond .eq (39), .iconst (0), .goto (44), .iload 2, .ifCond .eq (43), .iconst (1), .goto (44), .iconst (-1), .ireturn]
abbrev mX9_newest : Nat := 192
def cdX9_readsFlags : List Jvm.ClassFile.Instr := [.aload 0, .invokevirtual 192, .istore 1, .iconst (0), .istore 2, .iload 2, .iconst (8), .if_icmp .ge (15), .aload 0, .getfield 825, .iload 2, .iconst (0), .iastore, .iinc 2 1, .goto (5), .aload 0, .getfield 825, .iconst (7), .iconst (3), .iastore, .iload 1, .iconst (-1), .if_icmp .ne (24), .return_, .iload 1, .invokestatic 189, .istore 2, .iconst (0), .istore 3, .iload 3, .iconst (2), .if_icmp .ge (72), .aload 0, .getfield 818, .iload 2, .iconst (2), .iadd, .iload 3, .iadd, .iaload, .istore 4, .aload 0, .getfield 825, .iconst (0), .iload 3, .iadd, .iload 4, .iconst (4), .ishr, .iastore, .aload 0, .getfield 825, .iconst (2), .iload 3, .iadd, .iload 4, .iconst (1), .ishr, .iconst (7), .iand, .iastore, .aload 0, .getfield 825, .iconst (4), .iload 3, .iadd, .iload 4, .iconst (1), .iand, .iastore, .iinc 3 1, .goto (29), .aload 0, .getfield 825, .iconst (6), .aload 0, .getfield 818, .iload 2, .iconst (4), .iadd, .iaload, .iastore, .aload 0, .getfield 825, .iconst (7), .aload 0, .getfield 818, .iload 2, .iconst (5), .iadd, .iaload, .iastore, .return_]
abbrev mX9_readsFlags : Nat := 193
def cdX9_writesFlags : List Jvm.ClassFile.Instr := [.aload 0, .invokevirtual 192, .istore 1, .iload 1, .ifCond .ne (7), .iconst (1), .goto (8), .iconst (0), .istore 2, .aload 0, .getfield 826, .iconst (0), .iconst (165), .iastore, .aload 0, .getfield 826, .iconst (1), .iload 1, .iconst (-1), .if_icmp .ne (22), .iconst (0), .goto (33), .aload 0, .getfield 818, .iload 1, .invokestatic 189, .iconst (1), .iadd, .iaload, .iconst (1), .iadd, .iconst (256), .irem, .iastore, .iconst (0), .istore 3, .iload 3, .iconst (2), .if_icmp .ge (71), .aload 0, .getfield 826, .iconst (2), .iload 3, .iadd, .iconst (16), .aload 0, .getfield 825, .iconst (0), .iload 3, .iadd, .iaload, .imul, .iconst (2), .aload 0, .getfield 825, .iconst (2), .iload 3, .iadd, .iaload, .imul, .iadd, .aload 0, .getfield 825, .iconst (4), .iload 3, .iadd, .iaload, .iadd, .iastore, .iinc 3 1, .goto (36), .aload 0, .getfield 826, .iconst (4), .aload 0, .getfield 825, .iconst (6), .iaload, .iastore, .aload 0, .getfield 826, .iconst (5), .aload 0, .getfield 825, .iconst (7), .iaload, .iastore, .iconst (0), .istore 3, .iconst (0), .istore 4, .iload 4, .iconst (6), .if_icmp .ge (107), .iload 3, .iload 4, .iconst (1), .iadd, .aload 0, .getfield 826, .iload 4, .iaload, .imul, .iadd, .istore 3, .iinc 4 1, .goto (91), .aload 0, .getfield 826, .iconst (6), .iload 3, .iconst (256), .idiv, .iastore, .aload 0, .getfield 826, .iconst (7), .iload 3, .iconst (256), .irem, .iastore, .aload 0, .invokevirtual 187, .ifCond .eq (139), .iconst (0), .istore 4, .iload 4, .iconst (8), .if_icmp .ge (139), .aload 0, .getfield 818, .iload 2, .invokestatic 189, .iload 4, .iadd, .iconst (255), .iastore, .iinc 4 1, .goto (126), .iconst (0), .istore 4, .iload 4, .iconst (8), .if_icmp .ge (156), .aload 0, .iload 2, .invokestatic 189, .iload 4, .iadd, .aload 0, .getfield 826, .iload 4, .iaload, .invokevirtual 188, .iinc 4 1, .goto (141), .return_]
abbrev mX9_writesFlags : Nat := 194
def cdX9_forgets : List Jvm.ClassFile.Instr := [.aload 0, .getfield 825, .iconst (0), .iload 1, .iadd, .iconst (0), .iastore, .aload 0, .getfield 825, .iconst (2), .iload 1, .iadd, .iconst (0), .iastore, .aload 0, .getfield 825, .iconst (4), .iload 1, .iadd, .iconst (0), .iastore, .return_]
abbrev mX9_forgets : Nat := 195
def cdX9_prefers : List Jvm.ClassFile.Instr := [.aload 0, .getfield 825, .iconst (0), .iload 1, .iadd, .iconst (15), .iastore, .aload 0, .getfield 825, .iconst (1), .iload 1, .isub, .iconst (14), .aload 0, .getfield 825, .iconst (1), .iload 1, .isub, .iaload, .dadd, .iastore, .return_]
abbrev mX9_prefers : Nat := 196
def cdX9_isRevoked : List Jvm.ClassFile.Instr := [.iload 1, .istore 2, .iload 2, .iconst (-1), .if_icmp .eq (23), .aload 0, .getfield 818, .iconst (77), .iaload, .iload 2, .ishr, .iconst (1), .iand, .iconst (1), .if_icmp .ne (17), .iconst (1), .ireturn, .aload 0, .getfield 811, .iload 2, .iaload, .istore 2, .goto (2), .iconst (0), .ireturn]
abbrev mX9_isRevoked : Nat := 197
def cdX9_areDigests : List Jvm.ClassFile.Instr := [.aload 0, .getfield 818, .iload 1, .iconst (3), .iadd, .iaload, .istore 2, .aload 0, .getfield 818, .iload 1, .iconst (7), .iadd, .iconst (2), .iload 2, .iconst (1), .isub, .imul, .iadd, .iaload, .ifCond .ne (22), .iconst (1), .goto (23), .iconst (0), .istore 3, .iconst (0), .istore 4, .iload 4, .iload 2, .if_icmp .ge (82), .iload 4, .ifCond .ne (38), .aload 0, .getfield 818, .iload 1, .iconst (4), .iadd, .iaload, .goto (48), .aload 0, .getfield 818, .iload 1, .iconst (5), .iadd, .iconst (2), .iload 4, .imul, .iadd, .iaload, .istore 5, .iload 3, .ifCond .eq (78), .iload 5, .aload 0, .getfield 818, .iload 1, .iconst (6), .iadd, .iconst (2), .iload 4, .imul, .iadd, .iaload, .i2l, .aload 0, .getfield 818, .iload 1, .iconst (7), .iadd, .iconst (2), .iload 4, .imul, .iadd, .iaload, .i2l, .invokestatic 169, .if_icmp .ne (78), .iconst (1), .goto (79), .iconst (0), .istore 3, .iinc 4 1, .goto (26), .iload 3, .ireturn]
abbrev mX9_areDigests : Nat := 198
def cdX9_whyOf : List Jvm.ClassFile.Instr := [.iconst (14), .iload 1, .imul, .istore 2, .aload 0, .getfield 818, .iload 2, .iaload, .i2l, .jsr_w (1), .jsr_w (31), .invokestatic 153, .ifCond .eq (39), .aload 0, .getfield 818, .iload 2, .iconst (1), .iadd, .iaload, .i2l, .jsr_w (0), .aload 0, .getfield 805, .iconst (1), .isub, .i2l, .invokestatic 153, .ifCond .eq (39), .aload 0, .getfield 818, .iload 2, .iconst (3), .iadd, .iaload, .i2l, .jsr_w (1), .jsr_w (4), .invokestatic 153, .ifCond .ne (41), .iconst (1), .ireturn, .aload 0, .getfield 818, .iload 2, .iconst (5), .iadd, .iaload, .aload 0, .getfield 810, .aload 0, .getfield 818, .iload 2, .iconst (1), .iadd, .iaload, .iaload, .aload 0, .getfield 818, .iload 2, .invokestatic 170, .if_icmp .eq (63), .iconst (2), .ireturn, .iload 1, .iconst (2), .if_icmp .ge (90), .aload 0, .aload 0, .getfield 818, .iload 2, .iconst (1), .iadd, .iaload, .invokevirtual 197, .ifCond .eq (77), .iconst (3), .ireturn, .aload 0, .getfield 818, .iload 2, .iaload, .iconst (1), .isub, .aload 0, .getfield 818, .iconst (76), .iaload, .if_icmp .ge (99), .iconst (4), .ireturn, .aload 0, .getfield 818, .iload 2, .iconst (1), .iadd, .iaload, .ifCond .eq (99), .iconst (3), .ireturn, .aload 0, .iload 2, .invokevirtual 198, .ifCond .eq (105), .iconst (0), .goto (106), .iconst (5), .ireturn]
abbrev mX9_whyOf : Nat := 199
def cdX9_versionOf : List Jvm.ClassFile.Instr := [.aload 0, .getfield 818, .iconst (14), .iload 1, .imul, .iaload, .iconst (1), .isub, .ireturn]
abbrev mX9_versionOf : Nat := 200
def cdX9_copyNow : List Jvm.ClassFile.Instr := [.aload 0, .iconst (2), .invokevirtual 199, .ifCond .ne (6), .iconst (1), .goto (7), .iconst (0), .istore 1, .aload 0, .iconst (3), .invokevirtual 199, .ifCond .ne (14), .iconst (1), .goto (15), .iconst (0), .istore 2, .iload 1, .ifCond .eq (31), .iload 2, .ifCond .eq (31), .aload 0, .iconst (3), .invokevirtual 200, .aload 0, .iconst (2), .invokevirtual 200, .if_icmp .le (29), .iconst (3), .goto (30), .iconst (2), .ireturn, .iload 1, .ifCond .eq (35), .iconst (2), .goto (40), .iload 2, .ifCond .eq (39), .iconst (3), .goto (40), .iconst (-1), .ireturn]
abbrev mX9_copyNow : Nat := 201
def cdX9_starts : List Jvm.ClassFile.Instr := [.aload 0, .getfield 824, .ifCond .eq (4), .return_, .aload 0, .getfield 818, .iconst (78), .iload 1, .iastore, .aload 0, .getfield 818, .iconst (79), .iconst (0), .iastore, .aload 0, .getfield 818, .iconst (80), .iconst (0), .iastore, .iconst (23), .istore 3, .iload 3, .iconst (1), .if_icmp .le (40), .aload 0, .getfield 818, .iconst (83), .iload 3, .iadd, .aload 0, .getfield 818, .iconst (83), .iload 3, .iadd, .iconst (2), .isub, .iaload, .iastore, .iinc 3 (-1), .goto (21), .aload 0, .getfield 818, .iconst (83), .iload 1, .iastore, .aload 0, .getfield 818, .iconst (84), .aload 0, .iload 2, .invokevirtual 200, .iastore, .aload 0, .getfield 818, .iconst (82), .iconst (12), .aload 0, .getfield 818, .iconst (82), .iaload, .iconst (1), .iadd, .dadd, .iastore, .return_]
abbrev mX9_starts : Nat := 202
def cdX9_slotChosen : List Jvm.ClassFile.Instr := [.iconst (-1), .istore 1, .iconst (0), .istore 2, .iload 2, .iconst (2), .if_icmp .ge (55), .aload 0, .getfield 825, .iconst (0), .iload 2, .iadd, .iaload, .ifCond .le (31), .aload 0, .getfield 825, .iconst (4), .iload 2, .iadd, .iaload, .iconst (1), .if_icmp .eq (29), .aload 0, .getfield 825, .iconst (2), .iload 2, .iadd, .iaload, .ifCond .le (31), .iconst (1), .goto (32), .iconst (0), .istore 3, .iload 3, .ifCond .eq (53), .iload 1, .iconst (-1), .if_icmp .eq (51), .aload 0, .getfield 825, .iconst (0), .iload 2, .iadd, .iaload, .aload 0, .getfield 825, .iconst (0), .iload 1, .iadd, .iaload, .if_icmp .le (53), .iload 2, .istore 1, .iinc 2 1, .goto (4), .iload 1, .ireturn]
abbrev mX9_slotChosen : Nat := 203
def cdX9_boots : List Jvm.ClassFile.Instr := [.aload 0, .invokevirtual 193, .iload 1, .ifCond .ne (16), .aload 0, .getfield 825, .iconst (6), .iaload, .aload 0, .getfield 816, .iconst (2), .iaload, .if_icmp .ge (16), .aload 0, .invokevirtual 203, .goto (17), .iconst (-1), .istore 2, .iload 2, .iconst (-1), .if_icmp .eq (39), .aload 0, .iload 2, .invokevirtual 199, .ifCond .eq (39), .aload 0, .iload 2, .invokevirtual 195, .aload 0, .invokevirtual 194, .aload 0, .getfield 824, .ifCond .eq (35), .iconst (-1), .goto (37), .aload 0, .invokevirtual 203, .istore 2, .goto (18), .aload 0, .getfield 824, .ifCond .eq (44), .iconst (-2), .ireturn, .iload 2, .iconst (-1), .if_icmp .eq (97), .aload 0, .getfield 825, .iconst (2), .iload 2, .iadd, .dup2, .iaload, .aload 0, .getfield 825, .iconst (4), .iload 2, .iadd, .iaload, .iconst (1), .if_icmp .ne (64), .iconst (0), .goto (65), .iconst (1), .isub, .iastore, .aload 0, .getfield 825, .iconst (6), .iconst (255), .aload 0, .getfield 825, .iconst (6), .iaload, .iconst (1), .iadd, .dadd, .iastore, .aload 0, .getfield 825, .iconst (7), .iload 2, .iastore, .aload 0, .invokevirtual 194, .aload 0, .iload 2, .iload 2, .invokevirtual 202, .aload 0, .getfield 824, .ifCond .eq (95), .iconst (-2), .goto (96), .iload 2, .ireturn, .aload 0, .invokevirtual 201, .istore 3, .iload 3, .iconst (-1), .if_icmp .ne (105), .iconst (3), .ireturn, .aload 0, .getfield 825, .iconst (7), .iconst (2), .iastore, .aload 0, .invokevirtual 194, .aload 0, .iconst (2), .iload 3, .invokevirtual 202, .aload 0, .getfield 824, .ifCond .eq (121), .iconst (-2), .goto (122), .iconst (2), .ireturn]
abbrev mX9_boots : Nat := 204
def cdX9_heals : List Jvm.ClassFile.Instr := [.aload 0, .getfield 818, .iconst (78), .iaload, .istore 1, .aload 0, .invokevirtual 193, .aload 0, .getfield 825, .iconst (6), .iconst (0), .iastore, .iload 1, .iconst (2), .if_icmp .eq (32), .aload 0, .getfield 825, .iconst (4), .iload 1, .iadd, .iconst (1), .iastore, .aload 0, .getfield 825, .iconst (2), .iload 1, .iadd, .aload 0, .getfield 816, .iconst (3), .iaload, .iastore, .aload 0, .invokevirtual 194, .iload 1, .iconst (2), .if_icmp .eq (105), .aload 0, .getfield 824, .ifCond .ne (64), .aload 0, .getfield 818, .iconst (76), .iaload, .aload 0, .iload 1, .invokevirtual 200, .if_icmp .ge (64), .aload 0, .getfield 818, .iconst (76), .iaload, .iconst (31), .if_icmp .ge (64), .aload 0, .iconst (76), .aload 0, .getfield 818, .iconst (76), .iaload, .iconst (1), .iadd, .invokevirtual 188, .goto (37), .iconst (0), .istore 2, .iload 2, .iconst (6), .if_icmp .ge (105), .aload 0, .getfield 818, .iconst (14), .iload 1, .imul, .iconst (2), .iadd, .iaload, .iload 2, .ishr, .iconst (1), .iand, .iconst (1), .if_icmp .ne (103), .aload 0, .getfield 818, .iconst (77), .iaload, .iload 2, .ishr, .iconst (1), .iand, .ifCond .ne (103), .aload 0, .iconst (77), .aload 0, .getfield 818, .iconst (77), .iaload, .iconst (1), .iload 2, .ishl, .ior, .invokevirtual 188, .iinc 2 1, .goto (66), .aload 0, .getfield 824, .ifCond .eq (110), .iconst (-2), .ireturn, .aload 0, .getfield 818, .iconst (79), .iconst (1), .iastore, .aload 0, .getfield 818, .iconst (76), .iaload, .ireturn]
abbrev mX9_heals : Nat := 205
def cdX9_laysWords : List Jvm.ClassFile.Instr := [.iconst (14), .iload 1, .imul, .istore 4, .aload 0, .iload 4, .iconst (0), .invokevirtual 188, .iconst (13), .istore 5, .iload 5, .ifCond .le (24), .aload 0, .iload 4, .iload 5, .iadd, .aload 2, .iload 3, .iload 5, .iadd, .iaload, .invokevirtual 188, .iinc 5 (-1), .goto (10), .aload 0, .iload 4, .aload 2, .iload 3, .iaload, .invokevirtual 188, .return_]
abbrev mX9_laysWords : Nat := 206
def cdX9_isOpen : List Jvm.ClassFile.Instr := [.aload 0, .getfield 818, .iconst (72), .iaload, .aload 0, .getfield 818, .iconst (73), .iaload, .iadd, .aload 0, .getfield 818, .iconst (74), .iaload, .iadd, .istore 1, .aload 0, .getfield 818, .iconst (74), .iaload, .iconst (90), .if_icmp .ne (47), .aload 0, .getfield 818, .iconst (75), .iaload, .iload 1, .iconst (256), .irem, .if_icmp .ne (47), .aload 0, .getfield 818, .iconst (72), .iaload, .i2l, .jsr_w (0), .jsr_w (1), .invokestatic 153, .ifCond .eq (47), .aload 0, .aload 0, .getfield 818, .iconst (73), .iaload, .invokevirtual 178, .ifCond .eq (47), .iconst (1), .goto (48), .iconst (0), .ireturn]
abbrev mX9_isOpen : Nat := 207
def cdX9_resumes : List Jvm.ClassFile.Instr := [.aload 0, .getfield 824, .ifCond .eq (4), .return_, .aload 0, .getfield 818, .iconst (72), .iaload, .istore 1, .aload 0, .getfield 818, .iconst (73), .iaload, .istore 2, .aload 0, .invokevirtual 193, .aload 0, .iload 1, .invokevirtual 195, .aload 0, .invokevirtual 194, .aload 0, .iload 1, .aload 0, .getfield 814, .iconst (14), .iload 2, .imul, .invokevirtual 206, .aload 0, .iload 1, .invokevirtual 196, .aload 0, .getfield 825, .iconst (2), .iload 1, .iadd, .aload 0, .getfield 816, .iconst (3), .iaload, .iastore, .aload 0, .getfield 824, .ifCond .ne (47), .aload 0, .invokevirtual 194, .aload 0, .iconst (74), .iconst (0), .invokevirtual 188, .return_]
abbrev mX9_resumes : Nat := 208
def cdX9_installs : List Jvm.ClassFile.Instr := [.aload 0, .iconst (74), .iconst (0), .invokevirtual 188, .aload 0, .iconst (72), .iload 1, .invokevirtual 188, .aload 0, .iconst (73), .iload 2, .invokevirtual 188, .aload 0, .iconst (75), .iload 1, .iload 2, .iadd, .iconst (90), .iadd, .iconst (256), .irem, .invokevirtual 188, .aload 0, .iconst (74), .iconst (90), .invokevirtual 188, .aload 0, .invokevirtual 208, .aload 0, .getfield 824, .ifCond .eq (33), .iconst (-2), .goto (35), .aload 0, .getfield 823, .ireturn]
abbrev mX9_installs : Nat := 209
def cdX9_refreshes : List Jvm.ClassFile.Instr := [.aload 0, .invokevirtual 201, .iconst (2), .if_icmp .ne (6), .iconst (3), .goto (7), .iconst (2), .istore 2, .aload 0, .iload 2, .aload 0, .getfield 814, .iconst (14), .iload 1, .imul, .invokevirtual 206, .aload 0, .getfield 824, .ifCond .eq (21), .iconst (-2), .goto (22), .iload 2, .ireturn]
abbrev mX9_refreshes : Nat := 210
def cdX9_prefersNow : List Jvm.ClassFile.Instr := [.aload 0, .invokevirtual 193, .aload 0, .iload 1, .invokevirtual 196, .aload 0, .getfield 825, .iconst (1), .iload 1, .isub, .iaload, .istore 2, .aload 0, .invokevirtual 194, .aload 0, .getfield 824, .ifCond .eq (19), .iconst (-2), .goto (20), .iload 2, .ireturn]
abbrev mX9_prefersNow : Nat := 211
def cdX9_mends : List Jvm.ClassFile.Instr := [.iconst (0), .istore 1, .aload 0, .iconst (0), .invokevirtual 191, .aload 0, .iconst (1), .invokevirtual 191, .if_icmp .eq (15), .aload 0, .invokevirtual 193, .aload 0, .invokevirtual 194, .iconst (1), .istore 1, .aload 0, .getfield 824, .ifCond .ne (24), .aload 0, .iconst (2), .invokevirtual 199, .ifCond .ne (24), .iconst (1), .goto (25), .iconst (0), .istore 2, .aload 0, .getfield 824, .ifCond .ne (35), .aload 0, .iconst (3), .invokevirtual 199, .ifCond .ne (35), .iconst (1), .goto (36), .iconst (0), .istore 3, .iload 2, .iload 3, .if_icmp .eq (74), .iload 2, .ifCond .eq (44), .iconst (2), .goto (45), .iconst (3), .istore 4, .iconst (0), .istore 5, .iload 5, .iconst (14), .if_icmp .ge (65), .aload 0, .getfield 827, .iload 5, .aload 0, .getfield 818, .iconst (14), .iload 4, .imul, .iload 5, .iadd, .iaload, .iastore, .iinc 5 1, .goto (48), .aload 0, .iconst (5), .iload 4, .isub, .aload 0, .getfield 827, .iconst (0), .invokevirtual 206, .iinc 1 2, .aload 0, .getfield 824, .ifCond .eq (79), .iconst (-2), .goto (80), .iload 1, .ireturn]
abbrev mX9_mends : Nat := 212
def cdX9_canDo : List Jvm.ClassFile.Instr := [.iload 1, .tableswitch (100) (0) (6) #[2, 100, 17, 40, 62, 100, 77], .iload 2, .i2l, .jsr_w (0), .jsr_w (1), .invokestatic 153, .ifCond .eq (15), .iload 3, .ifCond .ne (15), .aload 0, .invokevirtual 184, .ifCond .eq (15), .iconst (1), .goto (16), .iconst (0), .ireturn, .iload 2, .i2l, .jsr_w (0), .jsr_w (1), .invokestatic 153, .ifCond .eq (38), .aload 0, .iload 3, .invokevirtual 178, .ifCond .eq (38), .aload 0, .invokevirtual 184, .ifCond .ne (38), .aload 0, .getfield 818, .iconst (78), .iaload, .iload 2, .if_icmp .eq (38), .iconst (1), .goto (39), .iconst (0), .ireturn, .iload 2, .ifCond .ne (60), .aload 0, .iload 3, .invokevirtual 178, .ifCond .eq (60), .aload 0, .invokevirtual 184, .ifCond .ne (60), .aload 0, .getfield 814, .iconst (14), .iload 3, .imul, .iconst (1), .iadd, .iaload, .ifCond .ne (60), .iconst (1), .goto (61), .iconst (0), .ireturn, .iload 2, .i2l, .jsr_w (0), .jsr_w (1), .invokestatic 153, .ifCond .eq (75), .iload 3, .ifCond .ne (75), .aload 0, .invokevirtual 184, .ifCond .ne (75), .iconst (1), .goto (76), .iconst (0), .ireturn, .iload 2, .ifCond .ne (98), .iload 3, .ifCond .ne (98), .aload 0, .invokevirtual 184, .ifCond .ne (98), .aload 0, .invokevirtual 207, .ifCond .eq (98), .aload 0, .getfield 818, .iconst (78), .iaload, .aload 0, .getfield 818, .iconst (72), .iaload, .if_icmp .eq (98), .iconst (1), .goto (99), .iconst (0), .ireturn, .iload 1, .i2l, .jsr_w (1), .jsr_w (5), .invokestatic 153, .ifCond .eq (115), .iload 2, .ifCond .ne (115), .iload 3, .ifCond .ne (115), .aload 0, .invokevirtual 184, .ifCond .ne (115), .iconst (1), .goto (116), .iconst (0), .ireturn]
abbrev mX9_canDo : Nat := 213
def cdX9_does : List Jvm.ClassFile.Instr := [.aload 0, .iload 4, .invokevirtual 186, .iload 1, .tableswitch (39) (0) (5) #[5, 15, 19, 25, 30, 35], .aload 0, .iload 2, .iconst (1), .if_icmp .ne (11), .iconst (1), .goto (12), .iconst (0), .invokevirtual 204, .istore 5, .goto (49), .aload 0, .invokevirtual 205, .istore 5, .goto (49), .aload 0, .iload 2, .iload 3, .invokevirtual 209, .istore 5, .goto (49), .aload 0, .iload 3, .invokevirtual 210, .istore 5, .goto (49), .aload 0, .iload 2, .invokevirtual 211, .istore 5, .goto (49), .aload 0, .invokevirtual 212, .istore 5, .goto (49), .aload 0, .invokevirtual 208, .aload 0, .getfield 824, .ifCond .eq (46), .iconst (-2), .goto (48), .aload 0, .getfield 823, .istore 5, .aload 0, .getfield 818, .iconst (81), .aload 0, .getfield 823, .iastore, .iload 5, .ireturn]
abbrev mX9_does : Nat := 214
def cdX9_acts : List Jvm.ClassFile.Instr := [.iload 4, .iconst (-1), .if_icmp .lt (9), .aload 0, .iload 1, .iload 2, .iload 3, .invokevirtual 213, .ifCond .ne (11), .iconst (-1), .ireturn, .aload 0, .invokevirtual 182, .aload 0, .iload 1, .iload 2, .iload 3, .iload 4, .invokevirtual 214, .ireturn]
abbrev mX9_acts : Nat := 215
def cdX9_boot : List Jvm.ClassFile.Instr := [.aload 0, .iconst (0), .iload 1, .invokestatic 154, .iconst (0), .iload 2, .invokevirtual 215, .ireturn]
abbrev mX9_boot : Nat := 216
def cdX9_health : List Jvm.ClassFile.Instr := [.aload 0, .iconst (1), .iconst (0), .iconst (0), .iload 1, .invokevirtual 215, .ireturn]
abbrev mX9_health : Nat := 217
def cdX9_install : List Jvm.ClassFile.Instr := [.aload 0, .iconst (2), .iload 1, .iload 2, .iload 3, .invokevirtual 215, .ireturn]
abbrev mX9_install : Nat := 218
def cdX9_refresh : List Jvm.ClassFile.Instr := [.aload 0, .iconst (3), .iconst (0), .iload 1, .iload 2, .invokevirtual 215, .ireturn]
abbrev mX9_refresh : Nat := 219
def cdX9_prefer : List Jvm.ClassFile.Instr := [.aload 0, .iconst (4), .iload 1, .iconst (0), .iload 2, .invokevirtual 215, .ireturn]
abbrev mX9_prefer : Nat := 220
def cdX9_mend : List Jvm.ClassFile.Instr := [.aload 0, .iconst (5), .iconst (0), .iconst (0), .iload 1, .invokevirtual 215, .ireturn]
abbrev mX9_mend : Nat := 221
def cdX9_resume : List Jvm.ClassFile.Instr := [.aload 0, .iconst (6), .iconst (0), .iconst (0), .iload 1, .invokevirtual 215, .ireturn]
abbrev mX9_resume : Nat := 222
def cdX9_factory : List Jvm.ClassFile.Instr := [.aload 0, .invokevirtual 184, .ifCond .eq (16), .aload 0, .iload 1, .invokevirtual 178, .ifCond .eq (16), .aload 0, .getfield 814, .iconst (14), .iload 1, .imul, .iconst (1), .iadd, .iaload, .ifCond .eq (18), .iconst (0), .ireturn, .aload 0, .invokevirtual 182, .iconst (0), .istore 2, .iload 2, .iconst (14), .if_icmp .ge (55), .aload 0, .getfield 818, .iconst (28), .iload 2, .iadd, .aload 0, .getfield 814, .iconst (14), .iload 1, .imul, .iload 2, .iadd, .iaload, .iastore, .aload 0, .getfield 818, .iconst (42), .iload 2, .iadd, .aload 0, .getfield 814, .iconst (14), .iload 1, .imul, .iload 2, .iadd, .iaload, .iastore, .iinc 2 1, .goto (22), .iconst (1), .ireturn]
abbrev mX9_factory : Nat := 223
def cdX9_waits : List Jvm.ClassFile.Instr := [.iload 1, .i2l, .jsr_w (1), .jsr_w (200), .invokestatic 153, .ifCond .eq (9), .aload 0, .invokevirtual 184, .ifCond .eq (11), .iconst (-1), .ireturn, .aload 0, .invokevirtual 182, .iconst (0), .istore 2, .iconst (0), .istore 3, .iload 3, .iload 1, .if_icmp .ge (68), .aload 0, .invokevirtual 184, .ifCond .ne (68), .aload 0, .getfield 818, .iconst (80), .dup2, .iaload, .iconst (1), .iadd, .iastore, .aload 0, .invokevirtual 185, .ifCond .eq (66), .aload 0, .getfield 818, .iconst (79), .iaload, .ifCond .ne (66), .aload 0, .getfield 818, .iconst (80), .iaload, .aload 0, .getfield 816, .iconst (4), .iaload, .if_icmp .lt (66), .aload 0, .getfield 818, .iconst (78), .iconst (-1), .iastore, .aload 0, .getfield 818, .iconst (80), .iconst (0), .iastore, .aload 0, .iconst (0), .iconst (0), .iconst (0), .iconst (-1), .invokevirtual 214, .pop, .iinc 2 1, .iinc 3 1, .goto (17), .iload 2, .ireturn]
abbrev mX9_waits : Nat := 224
def cdX9_off : List Jvm.ClassFile.Instr := [.aload 0, .invokevirtual 184, .ifCond .eq (5), .iconst (0), .ireturn, .aload 0, .invokevirtual 182, .aload 0, .getfield 818, .iconst (78), .iconst (-1), .iastore, .iconst (1), .ireturn]
abbrev mX9_off : Nat := 225
def cdX9_flip : List Jvm.ClassFile.Instr := [.iload 1, .i2l, .jsr_w (0), .jsr_w (3), .invokestatic 153, .ifCond .eq (18), .iload 2, .i2l, .jsr_w (0), .jsr_w (13), .invokestatic 153, .ifCond .eq (18), .iload 3, .i2l, .jsr_w (0), .jsr_w (30), .invokestatic 153, .ifCond .ne (20), .iconst (-1), .ireturn, .aload 0, .invokevirtual 182, .aload 0, .getfield 818, .iconst (14), .iload 1, .imul, .iload 2, .iadd, .dup2, .iaload, .iconst (1), .iload 3, .ishl, .ixor, .iastore, .aload 0, .getfield 818, .iconst (14), .iload 1, .imul, .iload 2, .iadd, .iaload, .ireturn]
abbrev mX9_flip : Nat := 226
def cdX9_blot : List Jvm.ClassFile.Instr := [.iload 1, .i2l, .jsr_w (0), .jsr_w (1), .invokestatic 153, .ifCond .eq (18), .iload 2, .i2l, .jsr_w (0), .jsr_w (7), .invokestatic 153, .ifCond .eq (18), .iload 3, .i2l, .jsr_w (0), .jsr_w (7), .invokestatic 153, .ifCond .ne (20), .iconst (-1), .ireturn, .aload 0, .invokevirtual 182, .aload 0, .getfield 818, .iload 1, .invokestatic 189, .iload 2, .iadd, .dup2, .iaload, .iconst (1), .iload 3, .ishl, .ixor, .iastore, .aload 0, .getfield 818, .iload 1, .invokestatic 189, .iload 2, .iadd, .iaload, .ireturn]
abbrev mX9_blot : Nat := 227
def cdX9_word : List Jvm.ClassFile.Instr := [.iload 1, .i2l, .jsr_w (0), .jsr_w (3), .invokestatic 153, .ifCond .eq (21), .iload 2, .i2l, .jsr_w (0), .jsr_w (13), .invokestatic 153, .ifCond .eq (21), .aload 0, .getfield 818, .iconst (14), .iload 1, .imul, .iload 2, .iadd, .iaload, .goto (22), .iconst (-1), .ireturn]
abbrev mX9_word : Nat := 228
def cdX9_octet : List Jvm.ClassFile.Instr := [.iload 1, .i2l, .jsr_w (0), .jsr_w (1), .invokestatic 153, .ifCond .eq (20), .iload 2, .i2l, .jsr_w (0), .jsr_w (7), .invokestatic 153, .ifCond .eq (20), .aload 0, .getfield 818, .iload 1, .invokestatic 189, .iload 2, .iadd, .iaload, .goto (21), .iconst (-1), .ireturn]
abbrev mX9_octet : Nat := 229
def cdX9_journal : List Jvm.ClassFile.Instr := [.iload 1, .i2l, .jsr_w (0), .jsr_w (3), .invokestatic 153, .ifCond .eq (13), .aload 0, .getfield 818, .iconst (72), .iload 1, .iadd, .iaload, .goto (14), .iconst (-1), .ireturn]
abbrev mX9_journal : Nat := 230
def cdX9_revoked : List Jvm.ClassFile.Instr := [.iload 1, .i2l, .jsr_w (0), .aload 0, .getfield 805, .iconst (1), .isub, .i2l, .invokestatic 153, .ifCond .eq (15), .aload 0, .iload 1, .invokevirtual 197, .invokestatic 154, .goto (16), .iconst (-1), .ireturn]
abbrev mX9_revoked : Nat := 231
def cdX9_whole : List Jvm.ClassFile.Instr := [.iload 1, .i2l, .jsr_w (0), .jsr_w (1), .invokestatic 153, .ifCond .eq (11), .aload 0, .iload 1, .invokevirtual 191, .invokestatic 154, .goto (12), .iconst (-1), .ireturn]
abbrev mX9_whole : Nat := 232
def cdX9_flag : List Jvm.ClassFile.Instr := [.iload 1, .i2l, .jsr_w (0), .jsr_w (1), .invokestatic 153, .ifCond .eq (12), .iload 2, .i2l, .jsr_w (0), .jsr_w (2), .invokestatic 153, .ifCond .ne (14), .iconst (-1), .ireturn, .aload 0, .invokevirtual 193, .aload 0, .getfield 825, .iconst (2), .iload 2, .imul, .iload 1, .iadd, .iaload, .ireturn]
abbrev mX9_flag : Nat := 233
def cdX9_why : List Jvm.ClassFile.Instr := [.iload 1, .i2l, .jsr_w (0), .jsr_w (3), .invokestatic 153, .ifCond .eq (10), .aload 0, .iload 1, .invokevirtual 199, .goto (11), .iconst (-1), .ireturn]
abbrev mX9_why : Nat := 234
def cdX9_thinks : List Jvm.ClassFile.Instr := [.aload 0, .aload 0, .getfield 820, .iconst (107), .iload 1, .imul, .invokevirtual 180, .return_]
abbrev mX9_thinks : Nat := 235
def cdX9_putsBack : List Jvm.ClassFile.Instr := [.aload 0, .aload 0, .getfield 820, .iconst (107), .iload 1, .imul, .invokevirtual 181, .return_]
abbrev mX9_putsBack : Nat := 236
def cdX9_wouldStart : List Jvm.ClassFile.Instr := [.aload 0, .iconst (2), .invokevirtual 235, .aload 0, .getfield 818, .iconst (78), .iconst (-1), .iastore, .aload 0, .iconst (0), .iload 1, .invokestatic 154, .iconst (0), .iconst (-1), .invokevirtual 214, .istore 2, .aload 0, .iconst (2), .invokevirtual 236, .iload 2, .ireturn]
abbrev mX9_wouldStart : Nat := 237
def cdX9_next : List Jvm.ClassFile.Instr := [.aload 0, .iload 1, .invokevirtual 237, .ireturn]
abbrev mX9_next : Nat := 238
def cdX9_keepsFlags : List Jvm.ClassFile.Instr := [.aload 0, .invokevirtual 193, .iconst (0), .istore 2, .iload 2, .iconst (8), .if_icmp .ge (16), .aload 1, .iload 2, .aload 0, .getfield 825, .iload 2, .iaload, .iastore, .iinc 2 1, .goto (4), .return_]
abbrev mX9_keepsFlags : Nat := 239
def cdX9_areFlags : List Jvm.ClassFile.Instr := [.aload 0, .invokevirtual 193, .iconst (1), .istore 2, .iconst (0), .istore 3, .iload 3, .iconst (8), .if_icmp .ge (25), .iload 2, .ifCond .eq (21), .aload 1, .iload 3, .iaload, .aload 0, .getfield 825, .iload 3, .iaload, .if_icmp .ne (21), .iconst (1), .goto (22), .iconst (0), .istore 2, .iinc 3 1, .goto (6), .iload 2, .ireturn]
abbrev mX9_areFlags : Nat := 240
def cdX9_writesOf : List Jvm.ClassFile.Instr := [.aload 0, .iconst (0), .invokevirtual 235, .aload 0, .iload 1, .iload 2, .iload 3, .iconst (-1), .invokevirtual 214, .pop, .aload 0, .getfield 823, .istore 4, .aload 0, .aload 0, .getfield 829, .invokevirtual 239, .aload 0, .iconst (0), .invokevirtual 236, .iload 4, .ireturn]
abbrev mX9_writesOf : Nat := 241
def cdX9_cuts : List Jvm.ClassFile.Instr := [.iload 1, .i2l, .jsr_w (0), .jsr_w (6), .invokestatic 153, .ifCond .eq (18), .aload 0, .iload 1, .iload 2, .iload 3, .invokevirtual 213, .ifCond .eq (18), .iload 4, .i2l, .jsr_w (0), .jsr_w (6), .invokestatic 153, .ifCond .ne (20), .iconst (-1), .ireturn, .aload 0, .aload 0, .getfield 828, .invokevirtual 239, .aload 0, .iload 1, .iload 2, .iload 3, .invokevirtual 241, .istore 5, .iload 4, .ifCond .ne (34), .iload 5, .ireturn, .iconst (0), .istore 6, .aload 0, .iconst (0), .invokevirtual 235, .iconst (0), .istore 7, .iload 7, .iload 5, .if_icmp .ge (88), .aload 0, .iload 1, .iload 2, .iload 3, .iload 7, .invokevirtual 214, .pop, .iload 4, .iconst (5), .if_icmp .ge (69), .iload 6, .aload 0, .iconst (0), .invokevirtual 237, .iload 4, .iconst (1), .isub, .if_icmp .ne (64), .iconst (1), .goto (65), .iconst (0), .invokestatic 154, .iadd, .istore 6, .goto (83), .iload 6, .aload 0, .iload 4, .iconst (5), .if_icmp .ne (77), .aload 0, .getfield 828, .goto (79), .aload 0, .getfield 829, .invokevirtual 240, .invokestatic 154, .iadd, .istore 6, .aload 0, .iconst (0), .invokevirtual 236, .iinc 7 1, .goto (41), .iload 6, .ireturn]
abbrev mX9_cuts : Nat := 242
def cdX9_twice : List Jvm.ClassFile.Instr := [.iload 1, .i2l, .jsr_w (0), .jsr_w (6), .invokestatic 153, .ifCond .eq (12), .aload 0, .iload 1, .iload 2, .iload 3, .invokevirtual 213, .ifCond .ne (14), .iconst (-1), .ireturn, .aload 0, .iload 1, .iload 2, .iload 3, .invokevirtual 241, .istore 4, .iconst (0), .istore 5, .aload 0, .iconst (0), .invokevirtual 235, .iconst (0), .istore 6, .iload 6, .iload 4, .if_icmp .ge (87), .aload 0, .iload 1, .iload 2, .iload 3, .iload 6, .invokevirtual 214, .pop, .aload 0, .iconst (1), .invokevirtual 235, .aload 0, .iconst (0), .iconst (0), .iconst (0), .iconst (-1), .invokevirtual 214, .pop, .aload 0, .getfield 823, .istore 7, .aload 0, .iconst (1), .invokevirtual 236, .iconst (0), .istore 8, .iload 8, .iload 7, .if_icmp .ge (82), .aload 0, .iconst (0), .iconst (0), .iconst (0), .iload 8, .invokevirtual 214, .pop, .iload 5, .aload 0, .iconst (0), .invokevirtual 237, .iconst (3), .if_icmp .ne (73), .iconst (1), .goto (74), .iconst (0), .invokestatic 154, .iadd, .istore 5, .aload 0, .iconst (1), .invokevirtual 236, .iinc 8 1, .goto (55), .aload 0, .iconst (0), .invokevirtual 236, .iinc 6 1, .goto (27), .iload 5, .ireturn]
abbrev mX9_twice : Nat := 243
def cdX9_lasts : List Jvm.ClassFile.Instr := [.iload 1, .i2l, .jsr_w (0), .jsr_w (1), .invokestatic 153, .ifCond .ne (8), .iconst (-1), .ireturn, .aload 0, .iconst (0), .invokevirtual 235, .iconst (0), .istore 2, .iconst (-1), .istore 3, .iload 2, .iconst (60), .if_icmp .ge (38), .iload 3, .iconst (2), .if_icmp .eq (38), .iload 3, .iconst (3), .if_icmp .eq (38), .aload 0, .getfield 818, .iconst (78), .iconst (-1), .iastore, .aload 0, .iconst (0), .iconst (0), .iconst (0), .iconst (-1), .invokevirtual 214, .istore 3, .iinc 2 1, .goto (15), .aload 0, .iconst (0), .invokevirtual 236, .iload 3, .iconst (2), .if_icmp .eq (49), .iload 3, .iconst (3), .if_icmp .eq (49), .iconst (-2), .goto (54), .iload 1, .ifCond .ne (53), .iload 2, .goto (54), .iload 3, .ireturn]
abbrev mX9_lasts : Nat := 244
def cdX9_slack : List Jvm.ClassFile.Instr := [.iload 1, .i2l, .jsr_w (0), .jsr_w (3), .invokestatic 153, .ifCond .ne (8), .iconst (-1), .ireturn, .iconst (0), .istore 2, .iconst (0), .istore 3, .iload 3, .iconst (14), .if_icmp .ge (63), .iconst (0), .istore 4, .iload 4, .iconst (31), .if_icmp .ge (61), .aload 0, .getfield 818, .iconst (14), .iload 1, .imul, .iload 3, .iadd, .dup2, .iaload, .iconst (1), .iload 4, .ishl, .ixor, .iastore, .iload 2, .aload 0, .iload 1, .invokevirtual 199, .ifCond .ne (41), .iconst (1), .goto (42), .iconst (0), .invokestatic 154, .iadd, .istore 2, .aload 0, .getfield 818, .iconst (14), .iload 1, .imul, .iload 3, .iadd, .dup2, .iaload, .iconst (1), .iload 4, .ishl, .ixor, .iastore, .iinc 4 1, .goto (17), .iinc 3 1, .goto (12), .iload 2, .ireturn]
abbrev mX9_slack : Nat := 245
def cdX9_frail : List Jvm.ClassFile.Instr := [.iload 1, .i2l, .jsr_w (0), .jsr_w (1), .invokestatic 153, .ifCond .ne (8), .iconst (-1), .ireturn, .aload 0, .iconst (0), .invokevirtual 237, .istore 2, .aload 0, .aload 0, .getfield 828, .invokevirtual 239, .iconst (0), .istore 3, .iconst (0), .istore 4, .iload 4, .iconst (16), .if_icmp .ge (79), .iconst (0), .istore 5, .iload 5, .iconst (8), .if_icmp .ge (77), .aload 0, .getfield 818, .iconst (56), .iload 4, .iadd, .dup2, .iaload, .iconst (1), .iload 5, .ishl, .ixor, .iastore, .iload 3, .iload 1, .ifCond .ne (52), .aload 0, .iconst (0), .invokevirtual 237, .iload 2, .if_icmp .eq (50), .iconst (1), .goto (60), .iconst (0), .goto (60), .aload 0, .aload 0, .getfield 828, .invokevirtual 240, .ifCond .ne (59), .iconst (1), .goto (60), .iconst (0), .invokestatic 154, .iadd, .istore 3, .aload 0, .getfield 818, .iconst (56), .iload 4, .iadd, .dup2, .iaload, .iconst (1), .iload 5, .ishl, .ixor, .iastore, .iinc 5 1, .goto (25), .iinc 4 1, .goto (20), .iload 3, .ireturn]
abbrev mX9_frail : Nat := 246
def cdX9_signs : List Jvm.ClassFile.Instr := [.aload 0, .invokevirtual 193, .iconst (68), .iload 1, .imul, .istore 2, .iconst (0), .istore 3, .iload 3, .iconst (56), .if_icmp .ge (23), .aload 0, .getfield 831, .iload 2, .iload 3, .iadd, .aload 0, .getfield 818, .iload 3, .iaload, .iastore, .iinc 3 1, .goto (8), .iinc 2 56, .iconst (0), .istore 3, .iload 3, .iconst (8), .if_icmp .ge (41), .aload 0, .getfield 831, .iload 2, .iload 3, .iadd, .aload 0, .getfield 825, .iload 3, .iaload, .iastore, .iinc 3 1, .goto (26), .iinc 2 8, .aload 0, .getfield 831, .iload 2, .aload 0, .getfield 818, .iconst (76), .iaload, .iastore, .aload 0, .getfield 831, .iload 2, .iconst (1), .iadd, .aload 0, .getfield 818, .iconst (77), .iaload, .iastore, .aload 0, .getfield 831, .iload 2, .iconst (2), .iadd, .aload 0, .getfield 818, .iconst (78), .iaload, .iastore, .aload 0, .getfield 831, .iload 2, .iconst (3), .iadd, .aload 0, .invokevirtual 184, .ifCond .eq (80), .iconst (0), .goto (84), .aload 0, .getfield 818, .iconst (79), .iaload, .iastore, .return_]
abbrev mX9_signs : Nat := 247
def cdX9_areAlike : List Jvm.ClassFile.Instr := [.iconst (0), .istore 3, .iload 3, .iconst (68), .if_icmp .ge (26), .aload 0, .getfield 831, .iconst (68), .iload 1, .imul, .iload 3, .iadd, .iaload, .aload 0, .getfield 831, .iconst (68), .iload 2, .imul, .iload 3, .iadd, .iaload, .if_icmp .eq (24), .iconst (0), .ireturn, .iinc 3 1, .goto (2), .iconst (1), .ireturn]
abbrev mX9_areAlike : Nat := 248
def cdX9_isThere : List Jvm.ClassFile.Instr := [.aload 0, .invokevirtual 185, .ifCond .eq (19), .aload 0, .getfield 818, .iconst (79), .iaload, .iconst (1), .if_icmp .ne (19), .aload 0, .aload 0, .getfield 818, .iconst (78), .iaload, .invokevirtual 200, .iload 1, .if_icmp .ne (19), .iconst (1), .goto (20), .iconst (0), .ireturn]
abbrev mX9_isThere : Nat := 249
def cdX9_tries : List Jvm.ClassFile.Instr := [.iload 1, .ifCond .ne (16), .aload 0, .invokevirtual 184, .ifCond .ne (7), .iconst (1), .goto (8), .iconst (0), .istore 2, .aload 0, .getfield 818, .iconst (78), .iconst (-1), .iastore, .iload 2, .ireturn, .iload 1, .iconst (1), .if_icmp .ne (21), .iconst (0), .goto (27), .iload 1, .iconst (2), .if_icmp .ne (26), .iconst (1), .goto (27), .iconst (2), .istore 2, .iload 1, .iconst (2), .if_icmp .le (38), .iload 1, .iconst (3), .isub, .aload 0, .getfield 806, .idiv, .goto (39), .iconst (0), .istore 3, .iload 1, .iconst (2), .if_icmp .le (50), .iload 1, .iconst (3), .isub, .aload 0, .getfield 806, .irem, .goto (51), .iconst (0), .istore 4, .aload 0, .iload 2, .iload 3, .iload 4, .invokevirtual 213, .ifCond .ne (60), .iconst (0), .ireturn, .aload 0, .iload 2, .iload 3, .iload 4, .iconst (-1), .invokevirtual 214, .pop, .iconst (1), .ireturn]
abbrev mX9_tries : Nat := 250
def cdX9_seeks : List Jvm.ClassFile.Instr := [.aload 0, .iload 1, .invokevirtual 249, .ifCond .eq (9), .aload 0, .iconst (0), .putfield 834, .iconst (0), .ireturn, .aload 0, .iconst (0), .invokevirtual 247, .aload 0, .aload 0, .getfield 830, .iconst (0), .invokevirtual 180, .aload 0, .getfield 832, .iconst (0), .iconst (-1), .iastore, .iconst (1), .istore 2, .iconst (0), .istore 3, .iload 3, .iload 2, .if_icmp .ge (110), .iconst (0), .istore 4, .iload 4, .iconst (3), .iconst (2), .aload 0, .getfield 806, .imul, .iadd, .if_icmp .ge (108), .aload 0, .aload 0, .getfield 830, .iconst (107), .iload 3, .imul, .invokevirtual 181, .aload 0, .iload 4, .invokevirtual 250, .ifCond .ne (51), .goto (106), .aload 0, .getfield 832, .iload 2, .iload 3, .iastore, .aload 0, .getfield 833, .iload 2, .iload 4, .iastore, .aload 0, .iload 1, .invokevirtual 249, .ifCond .eq (72), .aload 0, .iload 2, .putfield 834, .aload 0, .iload 2, .invokevirtual 252, .ireturn, .aload 0, .iload 2, .invokevirtual 247, .iconst (0), .istore 5, .iconst (0), .istore 6, .iload 6, .iload 2, .if_icmp .ge (91), .iload 5, .ifCond .ne (91), .aload 0, .iload 6, .iload 2, .invokevirtual 248, .istore 5, .iinc 6 1, .goto (79), .iload 5, .ifCond .ne (106), .iload 2, .iconst (300), .if_icmp .ne (98), .iconst (-3), .ireturn, .aload 0, .aload 0, .getfield 830, .iconst (107), .iload 2, .imul, .invokevirtual 180, .iinc 2 1, .iinc 4 1, .goto (31), .iinc 3 1, .goto (26), .iconst (-2), .ireturn]
abbrev mX9_seeks : Nat := 251
def cdX9_lengthOf : List Jvm.ClassFile.Instr := [.iconst (0), .istore 2, .iload 1, .istore 3, .iload 3, .ifCond .eq (13), .iinc 2 1, .aload 0, .getfield 832, .iload 3, .iaload, .istore 3, .goto (4), .iload 2, .ireturn]
abbrev mX9_lengthOf : Nat := 252
def cdX9_route : List Jvm.ClassFile.Instr := [.iload 1, .i2l, .jsr_w (0), .jsr_w (30), .invokestatic 153, .ifCond .eq (9), .iload 2, .iconst (-1), .if_icmp .ge (11), .iconst (-1), .ireturn, .aload 0, .iconst (0), .invokevirtual 235, .aload 0, .iload 1, .invokevirtual 251, .istore 3, .aload 0, .iconst (0), .invokevirtual 236, .iload 3, .ifCond .lt (26), .iload 2, .iconst (-1), .if_icmp .ne (28), .iload 3, .ireturn, .iload 2, .iload 3, .if_icmp .lt (33), .iconst (-2), .ireturn, .aload 0, .getfield 834, .istore 4, .iload 3, .iconst (1), .isub, .istore 5, .iload 5, .iload 2, .if_icmp .le (50), .aload 0, .getfield 832, .iload 4, .iaload, .istore 4, .iinc 5 (-1), .goto (40), .aload 0, .getfield 833, .iload 4, .iaload, .istore 5, .iload 5, .iconst (3), .if_icmp .ge (60), .iload 5, .goto (77), .iconst (100), .iconst (10), .iload 5, .iconst (3), .isub, .aload 0, .getfield 806, .idiv, .imul, .iadd, .iload 5, .iconst (3), .isub, .aload 0, .getfield 806, .irem, .iadd, .ireturn]
abbrev mX9_route : Nat := 253
def cdX9_draws : List Jvm.ClassFile.Instr := [.iload 1, .ifCond .ge (4), .iconst (-1), .ireturn, .aload 0, .getfield 835, .istore 2, .aload 0, .iload 1, .putfield 835, .iload 2, .ireturn]
abbrev mX9_draws : Nat := 254
def cdX9_drawn : List Jvm.ClassFile.Instr := [.aload 0, .aload 0, .getfield 835, .i2l, .jsr_w (1103515245), .lmul, .jsr_w (12345), .ladd, .jsr_w (2147483648), .lrem, .l2i, .putfield 835, .aload 0, .getfield 835, .iconst (65536), .idiv, .iload 1, .irem, .ireturn]
abbrev mX9_drawn : Nat := 255
def cdX9_cutDrawn : List Jvm.ClassFile.Instr := [.aload 0, .iconst (20), .invokevirtual 255, .istore 1, .iload 1, .iconst (19), .if_icmp .ne (9), .iconst (-1), .goto (12), .iconst (3), .iload 1, .imul, .ireturn]
abbrev mX9_cutDrawn : Nat := 256
def cdX9_happens : List Jvm.ClassFile.Instr := [.aload 0, .iload 1, .iload 2, .iload 3, .invokevirtual 213, .ifCond .ne (7), .return_, .aload 0, .iload 1, .iload 2, .iload 3, .iload 4, .invokevirtual 214, .istore 5, .aload 0, .dup, .getfield 839, .aload 0, .getfield 824, .invokestatic 154, .iadd, .putfield 839, .iload 1, .ifCond .ne (27), .aload 0, .getfield 824, .ifCond .eq (28), .return_, .aload 0, .dup, .getfield 838, .iload 5, .iconst (3), .if_icmp .ne (36), .iconst (1), .goto (37), .iconst (0), .invokestatic 154, .iadd, .putfield 838, .aload 0, .dup, .getfield 836, .iload 5, .iconst (3), .if_icmp .eq (48), .iconst (1), .goto (49), .iconst (0), .invokestatic 154, .iadd, .putfield 836, .aload 0, .dup, .getfield 837, .iload 5, .iconst (2), .if_icmp .ne (60), .iconst (1), .goto (61), .iconst (0), .invokestatic 154, .iadd, .putfield 837, .iload 5, .ifCond .eq (69), .iload 5, .iconst (1), .if_icmp .ne (86), .aload 0, .dup, .getfield 840, .aload 0, .iload 5, .invokevirtual 200, .aload 0, .getfield 818, .iconst (76), .iaload, .if_icmp .ge (82), .iconst (1), .goto (83), .iconst (0), .invokestatic 154, .iadd, .putfield 840, .return_]
abbrev mX9_happens : Nat := 257
def cdX9_lives : List Jvm.ClassFile.Instr := [.aload 0, .invokevirtual 184, .ifCond .eq (20), .aload 0, .iconst (4), .invokevirtual 255, .ifCond .ne (9), .iconst (1), .goto (10), .iconst (0), .invokestatic 154, .istore 1, .aload 0, .iconst (0), .iload 1, .iconst (0), .aload 0, .invokevirtual 256, .invokevirtual 257, .return_, .aload 0, .iconst (8), .invokevirtual 255, .tableswitch (76) (0) (6) #[24, 24, 32, 32, 49, 62, 68], .aload 0, .iconst (1), .iconst (0), .iconst (0), .aload 0, .invokevirtual 256, .invokevirtual 257, .goto (83), .aload 0, .iconst (2), .invokevirtual 255, .istore 1, .aload 0, .aload 0, .getfield 806, .invokevirtual 255, .istore 2, .aload 0, .iconst (2), .iload 1, .iload 2, .aload 0, .invokevirtual 256, .invokevirtual 257, .goto (83), .aload 0, .aload 0, .getfield 806, .invokevirtual 255, .istore 1, .aload 0, .iconst (3), .iconst (0), .iload 1, .aload 0, .invokevirtual 256, .invokevirtual 257, .goto (83), .aload 0, .getfield 818, .iconst (78), .iconst (-1), .iastore, .goto (83), .aload 0, .iconst (5), .iconst (0), .iconst (0), .aload 0, .invokevirtual 256, .invokevirtual 257, .goto (83), .aload 0, .iconst (6), .iconst (0), .iconst (0), .aload 0, .invokevirtual 256, .invokevirtual 257, .return_]
abbrev mX9_lives : Nat := 258
def cdX9_life : List Jvm.ClassFile.Instr := [.iload 1, .i2l, .jsr_w (1), .jsr_w (60), .invokestatic 153, .ifCond .eq (15), .iload 2, .i2l, .jsr_w (0), .jsr_w (5), .invokestatic 153, .ifCond .eq (15), .aload 0, .getfield 806, .ifCond .ne (17), .iconst (-1), .ireturn, .aload 0, .getfield 835, .istore 3, .aload 0, .iconst (0), .invokevirtual 235, .aload 0, .iconst (0), .putfield 836, .aload 0, .iconst (0), .putfield 837, .aload 0, .iconst (0), .putfield 838, .aload 0, .iconst (0), .putfield 839, .aload 0, .iconst (0), .putfield 840, .iconst (0), .istore 4, .iload 4, .iload 1, .if_icmp .ge (47), .aload 0, .invokevirtual 258, .iinc 4 1, .goto (40), .aload 0, .getfield 818, .iconst (76), .iaload, .istore 4, .aload 0, .iconst (0), .invokevirtual 236, .aload 0, .iload 3, .putfield 835, .iload 2, .tableswitch (74) (0) (4) #[60, 63, 66, 69, 72], .aload 0, .getfield 836, .ireturn, .aload 0, .getfield 837, .ireturn, .aload 0, .getfield 838, .ireturn, .aload 0, .getfield 839, .ireturn, .iload 4, .ireturn, .aload 0, .getfield 840, .ireturn]
abbrev mX9_life : Nat := 259
def cdX9_started : List Jvm.ClassFile.Instr := [.iload 1, .i2l, .jsr_w (0), .aload 0, .getfield 818, .iconst (82), .iaload, .iconst (1), .isub, .i2l, .invokestatic 153, .ifCond .eq (29), .iload 2, .i2l, .jsr_w (0), .jsr_w (1), .invokestatic 153, .ifCond .eq (29), .aload 0, .getfield 818, .iconst (83), .iconst (2), .iload 1, .imul, .iadd, .iload 2, .iadd, .iaload, .goto (30), .iconst (-1), .ireturn]
abbrev mX9_started : Nat := 260
def cdX9_least : List Jvm.ClassFile.Instr := [.iload 1, .i2l, .jsr_w (0), .jsr_w (1), .invokestatic 153, .ifCond .ne (8), .iconst (-1), .ireturn, .iconst (-2), .istore 2, .iconst (0), .istore 3, .iload 3, .iconst (2), .if_icmp .ge (41), .aload 0, .iload 3, .invokevirtual 199, .ifCond .ne (39), .aload 0, .iload 3, .invokevirtual 200, .istore 4, .iload 2, .iconst (-2), .if_icmp .eq (35), .iload 1, .ifCond .ne (32), .iload 4, .iload 2, .if_icmp .ge (37), .goto (35), .iload 4, .iload 2, .if_icmp .le (37), .iload 4, .goto (38), .iload 2, .istore 2, .iinc 3 1, .goto (12), .iload 2, .ireturn]
abbrev mX9_least : Nat := 261
def cdX9_count : List Jvm.ClassFile.Instr := [.aload 0, .invokevirtual 193, .aload 0, .invokevirtual 192, .istore 2, .iload 1, .tableswitch (96) (0) (18) #[7, 10, 13, 18, 23, 28, 33, 38, 43, 48, 50, 63, 66, 69, 72, 77, 82, 87, 92], .aload 0, .getfield 805, .ireturn, .aload 0, .getfield 806, .ireturn, .aload 0, .getfield 816, .iconst (2), .iaload, .ireturn, .aload 0, .getfield 816, .iconst (3), .iaload, .ireturn, .aload 0, .getfield 818, .iconst (76), .iaload, .ireturn, .aload 0, .getfield 818, .iconst (77), .iaload, .ireturn, .aload 0, .getfield 818, .iconst (78), .iaload, .ireturn, .aload 0, .getfield 825, .iconst (6), .iaload, .ireturn, .aload 0, .getfield 825, .iconst (7), .iaload, .ireturn, .iload 2, .ireturn, .iload 2, .iconst (-1), .if_icmp .ne (55), .iconst (-1), .goto (62), .aload 0, .getfield 818, .iload 2, .invokestatic 189, .iconst (1), .iadd, .iaload, .ireturn, .aload 0, .getfield 821, .ireturn, .aload 0, .getfield 835, .ireturn, .aload 0, .getfield 801, .ireturn, .aload 0, .getfield 818, .iconst (81), .iaload, .ireturn, .aload 0, .getfield 816, .iconst (4), .iaload, .ireturn, .aload 0, .getfield 818, .iconst (80), .iaload, .ireturn, .aload 0, .getfield 818, .iconst (79), .iaload, .ireturn, .aload 0, .invokevirtual 207, .invokestatic 154, .ireturn, .iconst (-1), .ireturn]
abbrev mX9_count : Nat := 262
def cdJ7_fill_53178 : List Jvm.ClassFile.Instr := [.iconst (0), .istore 2, .aload 0, .arraylength, .istore 3, .iload 2, .iload 3, .if_icmp .ge (14), .aload 0, .iload 2, .iload 1, .iastore, .iinc 2 1, .goto (5), .return_]
abbrev mJ7_fill_53178 : Nat := 263
def cod (m : Nat) : List Jvm.ClassFile.Instr := cond (Nat.blt m 264) (cond (Nat.blt m 132) (cond (Nat.blt m 66) (cond (Nat.blt m 33) (cond (Nat.blt m 16) (cond (Nat.blt m 8) (cond (Nat.blt m 4) (cond (Nat.blt m 2) (cond (Nat.blt m 1) (cond (Nat.beq m 0) (cdL_law) ([])) (cond (Nat.beq m 1) (cdX0_init) ([]))) (cond (Nat.blt m 3) (cond (Nat.beq m 2) (cdX0_clear) ([])) (cond (Nat.beq m 3) (cdX0_take) ([])))) (cond (Nat.blt m 6) (cond (Nat.blt m 5) (cond (Nat.beq m 4) (cdX0_hasKey) ([])) (cond (Nat.beq m 5) (cdX0_hasImage) ([]))) (cond (Nat.blt m 7) (cond (Nat.beq m 6) (cdX0_hasRecoveryImage) ([])) (cond (Nat.beq m 7) (cdX0_addKey) ([]))))) (cond (Nat.blt m 12) (cond (Nat.blt m 10) (cond (Nat.blt m 9) (cond (Nat.beq m 8) (cdX0_addImage) ([])) (cond (Nat.beq m 9) (cdX0_digest) ([]))) (cond (Nat.blt m 11) (cond (Nat.beq m 10) (cdX0_sign) ([])) (cond (Nat.beq m 11) (cdX1_init) ([])))) (cond (Nat.blt m 14) (cond (Nat.blt m 13) (cond (Nat.beq m 12) (cdX1_answer) ([])) (cond (Nat.beq m 13) (cdX1_startsBelow) ([]))) (cond (Nat.blt m 15) (cond (Nat.beq m 14) (cdX1_drawDeed) ([])) (cond (Nat.beq m 15) (cdX1_attempt) ([])))))) (cond (Nat.blt m 24) (cond (Nat.blt m 20) (cond (Nat.blt m 18) (cond (Nat.blt m 17) (cond (Nat.beq m 16) (cdX1_tally) ([])) (cond (Nat.beq m 17) (cdX1_draw) ([]))) (cond (Nat.blt m 19) (cond (Nat.beq m 18) (cdX2_init) ([])) (cond (Nat.beq m 19) (cdX2_cell) ([])))) (cond (Nat.blt m 22) (cond (Nat.blt m 21) (cond (Nat.beq m 20) (cdX2_setCell) ([])) (cond (Nat.beq m 21) (cdX2_turnBit) ([]))) (cond (Nat.blt m 23) (cond (Nat.beq m 22) (cdX2_takeFrom) ([])) (cond (Nat.beq m 23) (cdX2_saveTo) ([]))))) (cond (Nat.blt m 28) (cond (Nat.blt m 26) (cond (Nat.blt m 25) (cond (Nat.beq m 24) (cdX2_loadFrom) ([])) (cond (Nat.beq m 25) (cdX2_putImage) ([]))) (cond (Nat.blt m 27) (cond (Nat.beq m 26) (cdX2_holdsImage) ([])) (cond (Nat.beq m 27) (cdX2_isOn) ([])))) (cond (Nat.blt m 30) (cond (Nat.blt m 29) (cond (Nat.beq m 28) (cdX2_turnOff) ([])) (cond (Nat.beq m 29) (cdX2_isWhole) ([]))) (cond (Nat.blt m 31) (cond (Nat.beq m 30) (cdX2_sequence) ([])) (cond (Nat.blt m 32) (cond (Nat.beq m 31) (cdX2_newestPage) ([])) (cond (Nat.beq m 32) (cdX2_readFlags) ([])))))))) (cond (Nat.blt m 49) (cond (Nat.blt m 41) (cond (Nat.blt m 37) (cond (Nat.blt m 35) (cond (Nat.blt m 34) (cond (Nat.beq m 33) (cdX2_takeFlags) ([])) (cond (Nat.beq m 34) (cdX2_slotFlags) ([]))) (cond (Nat.blt m 36) (cond (Nat.beq m 35) (cdX2_setSlotFlags) ([])) (cond (Nat.beq m 36) (cdX2_flagsAsOne) ([])))) (cond (Nat.blt m 39) (cond (Nat.blt m 38) (cond (Nat.beq m 37) (cdX2_putFlags) ([])) (cond (Nat.beq m 38) (cdX2_writeFlags) ([]))) (cond (Nat.blt m 40) (cond (Nat.beq m 39) (cdX2_write) ([])) (cond (Nat.beq m 40) (cdX2_isRevoked) ([]))))) (cond (Nat.blt m 45) (cond (Nat.blt m 43) (cond (Nat.blt m 42) (cond (Nat.beq m 41) (cdX2_version) ([])) (cond (Nat.beq m 42) (cdX2_reasonAgainst) ([]))) (cond (Nat.blt m 44) (cond (Nat.beq m 43) (cdX2_hasSoundParts) ([])) (cond (Nat.beq m 44) (cdX2_recoveryCopy) ([])))) (cond (Nat.blt m 47) (cond (Nat.blt m 46) (cond (Nat.beq m 45) (cdX2_isJournalOpen) ([])) (cond (Nat.beq m 46) (cdX2_isAble) ([]))) (cond (Nat.blt m 48) (cond (Nat.beq m 47) (cdX2_perform) ([])) (cond (Nat.beq m 48) (cdX2_startSlot) ([])))))) (cond (Nat.blt m 57) (cond (Nat.blt m 53) (cond (Nat.blt m 51) (cond (Nat.blt m 50) (cond (Nat.beq m 49) (cdX2_chosenSlot) ([])) (cond (Nat.beq m 50) (cdX2_standing) ([]))) (cond (Nat.blt m 52) (cond (Nat.beq m 51) (cdX2_countTry) ([])) (cond (Nat.beq m 52) (cdX2_startRecovery) ([])))) (cond (Nat.blt m 55) (cond (Nat.blt m 54) (cond (Nat.beq m 53) (cdX2_noteStart) ([])) (cond (Nat.beq m 54) (cdX2_tellHealth) ([]))) (cond (Nat.blt m 56) (cond (Nat.beq m 55) (cdX2_blowVersionFuses) ([])) (cond (Nat.beq m 56) (cdX2_blowKeyFuses) ([]))))) (cond (Nat.blt m 61) (cond (Nat.blt m 59) (cond (Nat.blt m 58) (cond (Nat.beq m 57) (cdX2_openJournal) ([])) (cond (Nat.beq m 58) (cdX2_finishInstall) ([]))) (cond (Nat.blt m 60) (cond (Nat.beq m 59) (cdX2_favour) ([])) (cond (Nat.beq m 60) (cdX2_refreshOther) ([])))) (cond (Nat.blt m 63) (cond (Nat.blt m 62) (cond (Nat.beq m 61) (cdX2_mendBoth) ([])) (cond (Nat.beq m 62) (cdX2_lay) ([]))) (cond (Nat.blt m 64) (cond (Nat.beq m 63) (cdX2_passTicks) ([])) (cond (Nat.blt m 65) (cond (Nat.beq m 64) (cdX3_init) ([])) (cond (Nat.beq m 65) (cdX3_keep) ([]))))))))) (cond (Nat.blt m 99) (cond (Nat.blt m 82) (cond (Nat.blt m 74) (cond (Nat.blt m 70) (cond (Nat.blt m 68) (cond (Nat.blt m 67) (cond (Nat.beq m 66) (cdX3_bringBack) ([])) (cond (Nat.beq m 67) (cdX3_forget) ([]))) (cond (Nat.blt m 69) (cond (Nat.beq m 68) (cdX4_init) ([])) (cond (Nat.beq m 69) (cdX4_read) ([])))) (cond (Nat.blt m 72) (cond (Nat.blt m 71) (cond (Nat.beq m 70) (cdX4_readLine) ([])) (cond (Nat.beq m 71) (cdX4_readKey) ([]))) (cond (Nat.blt m 73) (cond (Nat.beq m 72) (cdX4_readImage) ([])) (cond (Nat.beq m 73) (cdX4_readRevoked) ([]))))) (cond (Nat.blt m 78) (cond (Nat.blt m 76) (cond (Nat.blt m 75) (cond (Nat.beq m 74) (cdX4_readParts) ([])) (cond (Nat.beq m 75) (cdX4_readLimit) ([]))) (cond (Nat.blt m 77) (cond (Nat.beq m 76) (cdX4_readTries) ([])) (cond (Nat.beq m 77) (cdX4_readWatch) ([])))) (cond (Nat.blt m 80) (cond (Nat.blt m 79) (cond (Nat.beq m 78) (cdX4_takeWord) ([])) (cond (Nat.beq m 79) (cdX4_takeNumber) ([]))) (cond (Nat.blt m 81) (cond (Nat.beq m 80) (cdX4_skipBlanks) ([])) (cond (Nat.beq m 81) (cdX4_byteAt) ([])))))) (cond (Nat.blt m 90) (cond (Nat.blt m 86) (cond (Nat.blt m 84) (cond (Nat.blt m 83) (cond (Nat.beq m 82) (cdX4_fail) ([])) (cond (Nat.beq m 83) (cdX4_isLetter) ([]))) (cond (Nat.blt m 85) (cond (Nat.beq m 84) (cdX4_isDigit) ([])) (cond (Nat.beq m 85) (cdX5_init) ([])))) (cond (Nat.blt m 88) (cond (Nat.blt m 87) (cond (Nat.beq m 86) (cdX5_moveOrLength) ([])) (cond (Nat.beq m 87) (cdX5_moveAt) ([]))) (cond (Nat.blt m 89) (cond (Nat.beq m 88) (cdX5_isThere) ([])) (cond (Nat.beq m 89) (cdX5_search) ([]))))) (cond (Nat.blt m 94) (cond (Nat.blt m 92) (cond (Nat.blt m 91) (cond (Nat.beq m 90) (cdX5_findAlike) ([])) (cond (Nat.beq m 91) (cdX5_firstAlike) ([]))) (cond (Nat.blt m 93) (cond (Nat.beq m 92) (cdX5_step) ([])) (cond (Nat.beq m 93) (cdX5_part) ([])))) (cond (Nat.blt m 96) (cond (Nat.blt m 95) (cond (Nat.beq m 94) (cdX5_pack) ([])) (cond (Nat.beq m 95) (cdX5_unpack) ([]))) (cond (Nat.blt m 97) (cond (Nat.beq m 96) (cdX5_add) ([])) (cond (Nat.blt m 98) (cond (Nat.beq m 97) (cdX6_at) ([])) (cond (Nat.beq m 98) (cdX6_put) ([])))))))) (cond (Nat.blt m 115) (cond (Nat.blt m 107) (cond (Nat.blt m 103) (cond (Nat.blt m 101) (cond (Nat.blt m 100) (cond (Nat.beq m 99) (cdX6_copy) ([])) (cond (Nat.beq m 100) (cdX7_init) ([]))) (cond (Nat.blt m 102) (cond (Nat.beq m 101) (cdX7_nextStart) ([])) (cond (Nat.beq m 102) (cdX7_writesOf) ([])))) (cond (Nat.blt m 105) (cond (Nat.blt m 104) (cond (Nat.beq m 103) (cdX7_countCuts) ([])) (cond (Nat.beq m 104) (cdX7_countTwos) ([]))) (cond (Nat.blt m 106) (cond (Nat.beq m 105) (cdX7_countDeadBoots) ([])) (cond (Nat.beq m 106) (cdX7_bootsWithoutHealth) ([]))))) (cond (Nat.blt m 111) (cond (Nat.blt m 109) (cond (Nat.blt m 108) (cond (Nat.beq m 107) (cdX7_slackBits) ([])) (cond (Nat.beq m 108) (cdX7_frailBits) ([]))) (cond (Nat.blt m 110) (cond (Nat.beq m 109) (cdX8_init) ([])) (cond (Nat.beq m 110) (cdX8_feed) ([])))) (cond (Nat.blt m 113) (cond (Nat.blt m 112) (cond (Nat.beq m 111) (cdX8_feedNumber) ([])) (cond (Nat.beq m 112) (cdX8_end) ([]))) (cond (Nat.blt m 114) (cond (Nat.beq m 113) (cdX8_bundle) ([])) (cond (Nat.beq m 114) (cdX8_image) ([])))))) (cond (Nat.blt m 123) (cond (Nat.blt m 119) (cond (Nat.blt m 117) (cond (Nat.blt m 116) (cond (Nat.beq m 115) (cdX8_factory) ([])) (cond (Nat.beq m 116) (cdX8_boot) ([]))) (cond (Nat.blt m 118) (cond (Nat.beq m 117) (cdX8_health) ([])) (cond (Nat.beq m 118) (cdX8_install) ([])))) (cond (Nat.blt m 121) (cond (Nat.blt m 120) (cond (Nat.beq m 119) (cdX8_refresh) ([])) (cond (Nat.beq m 120) (cdX8_prefer) ([]))) (cond (Nat.blt m 122) (cond (Nat.beq m 121) (cdX8_mend) ([])) (cond (Nat.beq m 122) (cdX8_resume) ([]))))) (cond (Nat.blt m 127) (cond (Nat.blt m 125) (cond (Nat.blt m 124) (cond (Nat.beq m 123) (cdX8_act) ([])) (cond (Nat.beq m 124) (cdX8_waits) ([]))) (cond (Nat.blt m 126) (cond (Nat.beq m 125) (cdX8_off) ([])) (cond (Nat.beq m 126) (cdX8_flip) ([])))) (cond (Nat.blt m 129) (cond (Nat.blt m 128) (cond (Nat.beq m 127) (cdX8_blot) ([])) (cond (Nat.beq m 128) (cdX8_undo) ([]))) (cond (Nat.blt m 130) (cond (Nat.beq m 129) (cdX8_word) ([])) (cond (Nat.blt m 131) (cond (Nat.beq m 130) (cdX8_octet) ([])) (cond (Nat.beq m 131) (cdX8_journal) ([])))))))))) (cond (Nat.blt m 198) (cond (Nat.blt m 165) (cond (Nat.blt m 148) (cond (Nat.blt m 140) (cond (Nat.blt m 136) (cond (Nat.blt m 134) (cond (Nat.blt m 133) (cond (Nat.beq m 132) (cdX8_revoked) ([])) (cond (Nat.beq m 133) (cdX8_whole) ([]))) (cond (Nat.blt m 135) (cond (Nat.beq m 134) (cdX8_flag) ([])) (cond (Nat.beq m 135) (cdX8_why) ([])))) (cond (Nat.blt m 138) (cond (Nat.blt m 137) (cond (Nat.beq m 136) (cdX8_next) ([])) (cond (Nat.beq m 137) (cdX8_cuts) ([]))) (cond (Nat.blt m 139) (cond (Nat.beq m 138) (cdX8_twice) ([])) (cond (Nat.beq m 139) (cdX8_lasts) ([]))))) (cond (Nat.blt m 144) (cond (Nat.blt m 142) (cond (Nat.blt m 141) (cond (Nat.beq m 140) (cdX8_slack) ([])) (cond (Nat.beq m 141) (cdX8_frail) ([]))) (cond (Nat.blt m 143) (cond (Nat.beq m 142) (cdX8_route) ([])) (cond (Nat.beq m 143) (cdX8_draws) ([])))) (cond (Nat.blt m 146) (cond (Nat.blt m 145) (cond (Nat.beq m 144) (cdX8_life) ([])) (cond (Nat.beq m 145) (cdX8_started) ([]))) (cond (Nat.blt m 147) (cond (Nat.beq m 146) (cdX8_least) ([])) (cond (Nat.beq m 147) (cdX8_count) ([])))))) (cond (Nat.blt m 156) (cond (Nat.blt m 152) (cond (Nat.blt m 150) (cond (Nat.blt m 149) (cond (Nat.beq m 148) (cdX8_countOfFlags) ([])) (cond (Nat.beq m 149) (cdX8_isSlot) ([]))) (cond (Nat.blt m 151) (cond (Nat.beq m 150) (cdX8_isPage) ([])) (cond (Nat.beq m 151) (cdX8_isStore) ([])))) (cond (Nat.blt m 154) (cond (Nat.blt m 153) (cond (Nat.beq m 152) (cdX9_init) ([])) (cond (Nat.beq m 153) (cdX9_in) ([]))) (cond (Nat.blt m 155) (cond (Nat.beq m 154) (cdX9_truth) ([])) (cond (Nat.beq m 155) (cdX9_feed) ([]))))) (cond (Nat.blt m 160) (cond (Nat.blt m 158) (cond (Nat.blt m 157) (cond (Nat.beq m 156) (cdX9_puts) ([])) (cond (Nat.beq m 157) (cdX9_end) ([]))) (cond (Nat.blt m 159) (cond (Nat.beq m 158) (cdX9_fails) ([])) (cond (Nat.beq m 159) (cdX9_isRight) ([])))) (cond (Nat.blt m 162) (cond (Nat.blt m 161) (cond (Nat.beq m 160) (cdX9_sign) ([])) (cond (Nat.beq m 161) (cdX9_nextSign) ([]))) (cond (Nat.blt m 163) (cond (Nat.beq m 162) (cdX9_wordOf) ([])) (cond (Nat.blt m 164) (cond (Nat.beq m 163) (cdX9_wordLength) ([])) (cond (Nat.beq m 164) (cdX9_isWord) ([])))))))) (cond (Nat.blt m 181) (cond (Nat.blt m 173) (cond (Nat.blt m 169) (cond (Nat.blt m 167) (cond (Nat.blt m 166) (cond (Nat.beq m 165) (cdX9_takes) ([])) (cond (Nat.beq m 166) (cdX9_isDigit) ([]))) (cond (Nat.blt m 168) (cond (Nat.beq m 167) (cdX9_number) ([])) (cond (Nat.beq m 168) (cdX9_readsKey) ([])))) (cond (Nat.blt m 171) (cond (Nat.blt m 170) (cond (Nat.beq m 169) (cdX9_digestOf) ([])) (cond (Nat.beq m 170) (cdX9_signOf) ([]))) (cond (Nat.blt m 172) (cond (Nat.beq m 171) (cdX9_readsRevoked) ([])) (cond (Nat.beq m 172) (cdX9_readsParts) ([]))))) (cond (Nat.blt m 177) (cond (Nat.blt m 175) (cond (Nat.blt m 174) (cond (Nat.beq m 173) (cdX9_readsImage) ([])) (cond (Nat.beq m 174) (cdX9_readsSetting) ([]))) (cond (Nat.blt m 176) (cond (Nat.beq m 175) (cdX9_readsLine) ([])) (cond (Nat.beq m 176) (cdX9_bundle) ([])))) (cond (Nat.blt m 179) (cond (Nat.blt m 178) (cond (Nat.beq m 177) (cdX9_copiesBundle) ([])) (cond (Nat.beq m 178) (cdX9_isImage) ([]))) (cond (Nat.blt m 180) (cond (Nat.beq m 179) (cdX9_image) ([])) (cond (Nat.beq m 180) (cdX9_keepsIn) ([])))))) (cond (Nat.blt m 189) (cond (Nat.blt m 185) (cond (Nat.blt m 183) (cond (Nat.blt m 182) (cond (Nat.beq m 181) (cdX9_laysFrom) ([])) (cond (Nat.beq m 182) (cdX9_remembers) ([]))) (cond (Nat.blt m 184) (cond (Nat.beq m 183) (cdX9_undo) ([])) (cond (Nat.beq m 184) (cdX9_isOff) ([])))) (cond (Nat.blt m 187) (cond (Nat.blt m 186) (cond (Nat.beq m 185) (cdX9_isSlotRunning) ([])) (cond (Nat.beq m 186) (cdX9_begins) ([]))) (cond (Nat.blt m 188) (cond (Nat.beq m 187) (cdX9_canWrite) ([])) (cond (Nat.beq m 188) (cdX9_writes) ([]))))) (cond (Nat.blt m 193) (cond (Nat.blt m 191) (cond (Nat.blt m 190) (cond (Nat.beq m 189) (cdX9_pageAt) ([])) (cond (Nat.beq m 190) (cdX9_checkOf) ([]))) (cond (Nat.blt m 192) (cond (Nat.beq m 191) (cdX9_isWhole) ([])) (cond (Nat.beq m 192) (cdX9_newest) ([])))) (cond (Nat.blt m 195) (cond (Nat.blt m 194) (cond (Nat.beq m 193) (cdX9_readsFlags) ([])) (cond (Nat.beq m 194) (cdX9_writesFlags) ([]))) (cond (Nat.blt m 196) (cond (Nat.beq m 195) (cdX9_forgets) ([])) (cond (Nat.blt m 197) (cond (Nat.beq m 196) (cdX9_prefers) ([])) (cond (Nat.beq m 197) (cdX9_isRevoked) ([]))))))))) (cond (Nat.blt m 231) (cond (Nat.blt m 214) (cond (Nat.blt m 206) (cond (Nat.blt m 202) (cond (Nat.blt m 200) (cond (Nat.blt m 199) (cond (Nat.beq m 198) (cdX9_areDigests) ([])) (cond (Nat.beq m 199) (cdX9_whyOf) ([]))) (cond (Nat.blt m 201) (cond (Nat.beq m 200) (cdX9_versionOf) ([])) (cond (Nat.beq m 201) (cdX9_copyNow) ([])))) (cond (Nat.blt m 204) (cond (Nat.blt m 203) (cond (Nat.beq m 202) (cdX9_starts) ([])) (cond (Nat.beq m 203) (cdX9_slotChosen) ([]))) (cond (Nat.blt m 205) (cond (Nat.beq m 204) (cdX9_boots) ([])) (cond (Nat.beq m 205) (cdX9_heals) ([]))))) (cond (Nat.blt m 210) (cond (Nat.blt m 208) (cond (Nat.blt m 207) (cond (Nat.beq m 206) (cdX9_laysWords) ([])) (cond (Nat.beq m 207) (cdX9_isOpen) ([]))) (cond (Nat.blt m 209) (cond (Nat.beq m 208) (cdX9_resumes) ([])) (cond (Nat.beq m 209) (cdX9_installs) ([])))) (cond (Nat.blt m 212) (cond (Nat.blt m 211) (cond (Nat.beq m 210) (cdX9_refreshes) ([])) (cond (Nat.beq m 211) (cdX9_prefersNow) ([]))) (cond (Nat.blt m 213) (cond (Nat.beq m 212) (cdX9_mends) ([])) (cond (Nat.beq m 213) (cdX9_canDo) ([])))))) (cond (Nat.blt m 222) (cond (Nat.blt m 218) (cond (Nat.blt m 216) (cond (Nat.blt m 215) (cond (Nat.beq m 214) (cdX9_does) ([])) (cond (Nat.beq m 215) (cdX9_acts) ([]))) (cond (Nat.blt m 217) (cond (Nat.beq m 216) (cdX9_boot) ([])) (cond (Nat.beq m 217) (cdX9_health) ([])))) (cond (Nat.blt m 220) (cond (Nat.blt m 219) (cond (Nat.beq m 218) (cdX9_install) ([])) (cond (Nat.beq m 219) (cdX9_refresh) ([]))) (cond (Nat.blt m 221) (cond (Nat.beq m 220) (cdX9_prefer) ([])) (cond (Nat.beq m 221) (cdX9_mend) ([]))))) (cond (Nat.blt m 226) (cond (Nat.blt m 224) (cond (Nat.blt m 223) (cond (Nat.beq m 222) (cdX9_resume) ([])) (cond (Nat.beq m 223) (cdX9_factory) ([]))) (cond (Nat.blt m 225) (cond (Nat.beq m 224) (cdX9_waits) ([])) (cond (Nat.beq m 225) (cdX9_off) ([])))) (cond (Nat.blt m 228) (cond (Nat.blt m 227) (cond (Nat.beq m 226) (cdX9_flip) ([])) (cond (Nat.beq m 227) (cdX9_blot) ([]))) (cond (Nat.blt m 229) (cond (Nat.beq m 228) (cdX9_word) ([])) (cond (Nat.blt m 230) (cond (Nat.beq m 229) (cdX9_octet) ([])) (cond (Nat.beq m 230) (cdX9_journal) ([])))))))) (cond (Nat.blt m 247) (cond (Nat.blt m 239) (cond (Nat.blt m 235) (cond (Nat.blt m 233) (cond (Nat.blt m 232) (cond (Nat.beq m 231) (cdX9_revoked) ([])) (cond (Nat.beq m 232) (cdX9_whole) ([]))) (cond (Nat.blt m 234) (cond (Nat.beq m 233) (cdX9_flag) ([])) (cond (Nat.beq m 234) (cdX9_why) ([])))) (cond (Nat.blt m 237) (cond (Nat.blt m 236) (cond (Nat.beq m 235) (cdX9_thinks) ([])) (cond (Nat.beq m 236) (cdX9_putsBack) ([]))) (cond (Nat.blt m 238) (cond (Nat.beq m 237) (cdX9_wouldStart) ([])) (cond (Nat.beq m 238) (cdX9_next) ([]))))) (cond (Nat.blt m 243) (cond (Nat.blt m 241) (cond (Nat.blt m 240) (cond (Nat.beq m 239) (cdX9_keepsFlags) ([])) (cond (Nat.beq m 240) (cdX9_areFlags) ([]))) (cond (Nat.blt m 242) (cond (Nat.beq m 241) (cdX9_writesOf) ([])) (cond (Nat.beq m 242) (cdX9_cuts) ([])))) (cond (Nat.blt m 245) (cond (Nat.blt m 244) (cond (Nat.beq m 243) (cdX9_twice) ([])) (cond (Nat.beq m 244) (cdX9_lasts) ([]))) (cond (Nat.blt m 246) (cond (Nat.beq m 245) (cdX9_slack) ([])) (cond (Nat.beq m 246) (cdX9_frail) ([])))))) (cond (Nat.blt m 255) (cond (Nat.blt m 251) (cond (Nat.blt m 249) (cond (Nat.blt m 248) (cond (Nat.beq m 247) (cdX9_signs) ([])) (cond (Nat.beq m 248) (cdX9_areAlike) ([]))) (cond (Nat.blt m 250) (cond (Nat.beq m 249) (cdX9_isThere) ([])) (cond (Nat.beq m 250) (cdX9_tries) ([])))) (cond (Nat.blt m 253) (cond (Nat.blt m 252) (cond (Nat.beq m 251) (cdX9_seeks) ([])) (cond (Nat.beq m 252) (cdX9_lengthOf) ([]))) (cond (Nat.blt m 254) (cond (Nat.beq m 253) (cdX9_route) ([])) (cond (Nat.beq m 254) (cdX9_draws) ([]))))) (cond (Nat.blt m 259) (cond (Nat.blt m 257) (cond (Nat.blt m 256) (cond (Nat.beq m 255) (cdX9_drawn) ([])) (cond (Nat.beq m 256) (cdX9_cutDrawn) ([]))) (cond (Nat.blt m 258) (cond (Nat.beq m 257) (cdX9_happens) ([])) (cond (Nat.beq m 258) (cdX9_lives) ([])))) (cond (Nat.blt m 261) (cond (Nat.blt m 260) (cond (Nat.beq m 259) (cdX9_life) ([])) (cond (Nat.beq m 260) (cdX9_started) ([]))) (cond (Nat.blt m 262) (cond (Nat.beq m 261) (cdX9_least) ([])) (cond (Nat.blt m 263) (cond (Nat.beq m 262) (cdX9_count) ([])) (cond (Nat.beq m 263) (cdJ7_fill_53178) ([]))))))))))) []
/-- names of classes, by number -/
def cN (a : Nat) : String := cond (Nat.blt a 50) (cond (Nat.blt a 4) (cond (Nat.blt a 2) (cond (Nat.blt a 1) (cond (Nat.beq a 0) ("TwinSlots$Bundle") ("")) (cond (Nat.beq a 1) ("TwinSlots$Lives") (""))) (cond (Nat.blt a 3) (cond (Nat.beq a 2) ("TwinSlots$Machine") ("")) (cond (Nat.beq a 3) ("TwinSlots$Past") ("")))) (cond (Nat.blt a 6) (cond (Nat.blt a 5) (cond (Nat.beq a 4) ("TwinSlots$Reader") ("")) (cond (Nat.beq a 5) ("TwinSlots$Routes") (""))) (cond (Nat.blt a 7) (cond (Nat.beq a 6) ("TwinSlots$Trials") ("")) (cond (Nat.blt a 8) (cond (Nat.beq a 7) ("TwinSlots") ("")) (cond (Nat.beq a 8) ("TwinSlotsModel") ("")))))) (cond (Nat.blt a 54) (cond (Nat.blt a 52) (cond (Nat.blt a 51) (cond (Nat.beq a 50) ("TwinSlots$Rows") ("")) (cond (Nat.beq a 51) ("TwinSlotsLaw") (""))) (cond (Nat.blt a 53) (cond (Nat.beq a 52) ("java/util/Arrays") ("")) (cond (Nat.beq a 53) ("java/lang/System") ("")))) (cond (Nat.blt a 56) (cond (Nat.blt a 55) (cond (Nat.beq a 54) ("java/lang/Math") ("")) (cond (Nat.beq a 55) ("java/lang/String") (""))) (cond (Nat.blt a 57) (cond (Nat.beq a 56) ("java/lang/StringLatin1") ("")) (cond (Nat.blt a 58) (cond (Nat.beq a 57) ("jdk/internal/util/Preconditions") ("")) (cond (Nat.beq a 58) ("java/lang/Object") (""))))))
def mOwn (m : Nat) : Nat := cond (Nat.blt m 132) (cond (Nat.blt m 66) (cond (Nat.blt m 33) (cond (Nat.blt m 16) (cond (Nat.blt m 8) (cond (Nat.blt m 4) (cond (Nat.blt m 2) (cond (Nat.blt m 1) (cond (Nat.beq m 0) (51) (98)) (cond (Nat.beq m 1) (0) (98))) (cond (Nat.blt m 3) (cond (Nat.beq m 2) (0) (98)) (cond (Nat.beq m 3) (0) (98)))) (cond (Nat.blt m 6) (cond (Nat.blt m 5) (cond (Nat.beq m 4) (0) (98)) (cond (Nat.beq m 5) (0) (98))) (cond (Nat.blt m 7) (cond (Nat.beq m 6) (0) (98)) (cond (Nat.beq m 7) (0) (98))))) (cond (Nat.blt m 12) (cond (Nat.blt m 10) (cond (Nat.blt m 9) (cond (Nat.beq m 8) (0) (98)) (cond (Nat.beq m 9) (0) (98))) (cond (Nat.blt m 11) (cond (Nat.beq m 10) (0) (98)) (cond (Nat.beq m 11) (1) (98)))) (cond (Nat.blt m 14) (cond (Nat.blt m 13) (cond (Nat.beq m 12) (1) (98)) (cond (Nat.beq m 13) (1) (98))) (cond (Nat.blt m 15) (cond (Nat.beq m 14) (1) (98)) (cond (Nat.beq m 15) (1) (98)))))) (cond (Nat.blt m 24) (cond (Nat.blt m 20) (cond (Nat.blt m 18) (cond (Nat.blt m 17) (cond (Nat.beq m 16) (1) (98)) (cond (Nat.beq m 17) (1) (98))) (cond (Nat.blt m 19) (cond (Nat.beq m 18) (2) (98)) (cond (Nat.beq m 19) (2) (98)))) (cond (Nat.blt m 22) (cond (Nat.blt m 21) (cond (Nat.beq m 20) (2) (98)) (cond (Nat.beq m 21) (2) (98))) (cond (Nat.blt m 23) (cond (Nat.beq m 22) (2) (98)) (cond (Nat.beq m 23) (2) (98))))) (cond (Nat.blt m 28) (cond (Nat.blt m 26) (cond (Nat.blt m 25) (cond (Nat.beq m 24) (2) (98)) (cond (Nat.beq m 25) (2) (98))) (cond (Nat.blt m 27) (cond (Nat.beq m 26) (2) (98)) (cond (Nat.beq m 27) (2) (98)))) (cond (Nat.blt m 30) (cond (Nat.blt m 29) (cond (Nat.beq m 28) (2) (98)) (cond (Nat.beq m 29) (2) (98))) (cond (Nat.blt m 31) (cond (Nat.beq m 30) (2) (98)) (cond (Nat.blt m 32) (cond (Nat.beq m 31) (2) (98)) (cond (Nat.beq m 32) (2) (98)))))))) (cond (Nat.blt m 49) (cond (Nat.blt m 41) (cond (Nat.blt m 37) (cond (Nat.blt m 35) (cond (Nat.blt m 34) (cond (Nat.beq m 33) (2) (98)) (cond (Nat.beq m 34) (2) (98))) (cond (Nat.blt m 36) (cond (Nat.beq m 35) (2) (98)) (cond (Nat.beq m 36) (2) (98)))) (cond (Nat.blt m 39) (cond (Nat.blt m 38) (cond (Nat.beq m 37) (2) (98)) (cond (Nat.beq m 38) (2) (98))) (cond (Nat.blt m 40) (cond (Nat.beq m 39) (2) (98)) (cond (Nat.beq m 40) (2) (98))))) (cond (Nat.blt m 45) (cond (Nat.blt m 43) (cond (Nat.blt m 42) (cond (Nat.beq m 41) (2) (98)) (cond (Nat.beq m 42) (2) (98))) (cond (Nat.blt m 44) (cond (Nat.beq m 43) (2) (98)) (cond (Nat.beq m 44) (2) (98)))) (cond (Nat.blt m 47) (cond (Nat.blt m 46) (cond (Nat.beq m 45) (2) (98)) (cond (Nat.beq m 46) (2) (98))) (cond (Nat.blt m 48) (cond (Nat.beq m 47) (2) (98)) (cond (Nat.beq m 48) (2) (98)))))) (cond (Nat.blt m 57) (cond (Nat.blt m 53) (cond (Nat.blt m 51) (cond (Nat.blt m 50) (cond (Nat.beq m 49) (2) (98)) (cond (Nat.beq m 50) (2) (98))) (cond (Nat.blt m 52) (cond (Nat.beq m 51) (2) (98)) (cond (Nat.beq m 52) (2) (98)))) (cond (Nat.blt m 55) (cond (Nat.blt m 54) (cond (Nat.beq m 53) (2) (98)) (cond (Nat.beq m 54) (2) (98))) (cond (Nat.blt m 56) (cond (Nat.beq m 55) (2) (98)) (cond (Nat.beq m 56) (2) (98))))) (cond (Nat.blt m 61) (cond (Nat.blt m 59) (cond (Nat.blt m 58) (cond (Nat.beq m 57) (2) (98)) (cond (Nat.beq m 58) (2) (98))) (cond (Nat.blt m 60) (cond (Nat.beq m 59) (2) (98)) (cond (Nat.beq m 60) (2) (98)))) (cond (Nat.blt m 63) (cond (Nat.blt m 62) (cond (Nat.beq m 61) (2) (98)) (cond (Nat.beq m 62) (2) (98))) (cond (Nat.blt m 64) (cond (Nat.beq m 63) (2) (98)) (cond (Nat.blt m 65) (cond (Nat.beq m 64) (3) (98)) (cond (Nat.beq m 65) (3) (98))))))))) (cond (Nat.blt m 99) (cond (Nat.blt m 82) (cond (Nat.blt m 74) (cond (Nat.blt m 70) (cond (Nat.blt m 68) (cond (Nat.blt m 67) (cond (Nat.beq m 66) (3) (98)) (cond (Nat.beq m 67) (3) (98))) (cond (Nat.blt m 69) (cond (Nat.beq m 68) (4) (98)) (cond (Nat.beq m 69) (4) (98)))) (cond (Nat.blt m 72) (cond (Nat.blt m 71) (cond (Nat.beq m 70) (4) (98)) (cond (Nat.beq m 71) (4) (98))) (cond (Nat.blt m 73) (cond (Nat.beq m 72) (4) (98)) (cond (Nat.beq m 73) (4) (98))))) (cond (Nat.blt m 78) (cond (Nat.blt m 76) (cond (Nat.blt m 75) (cond (Nat.beq m 74) (4) (98)) (cond (Nat.beq m 75) (4) (98))) (cond (Nat.blt m 77) (cond (Nat.beq m 76) (4) (98)) (cond (Nat.beq m 77) (4) (98)))) (cond (Nat.blt m 80) (cond (Nat.blt m 79) (cond (Nat.beq m 78) (4) (98)) (cond (Nat.beq m 79) (4) (98))) (cond (Nat.blt m 81) (cond (Nat.beq m 80) (4) (98)) (cond (Nat.beq m 81) (4) (98)))))) (cond (Nat.blt m 90) (cond (Nat.blt m 86) (cond (Nat.blt m 84) (cond (Nat.blt m 83) (cond (Nat.beq m 82) (4) (98)) (cond (Nat.beq m 83) (4) (98))) (cond (Nat.blt m 85) (cond (Nat.beq m 84) (4) (98)) (cond (Nat.beq m 85) (5) (98)))) (cond (Nat.blt m 88) (cond (Nat.blt m 87) (cond (Nat.beq m 86) (5) (98)) (cond (Nat.beq m 87) (5) (98))) (cond (Nat.blt m 89) (cond (Nat.beq m 88) (5) (98)) (cond (Nat.beq m 89) (5) (98))))) (cond (Nat.blt m 94) (cond (Nat.blt m 92) (cond (Nat.blt m 91) (cond (Nat.beq m 90) (5) (98)) (cond (Nat.beq m 91) (5) (98))) (cond (Nat.blt m 93) (cond (Nat.beq m 92) (5) (98)) (cond (Nat.beq m 93) (5) (98)))) (cond (Nat.blt m 96) (cond (Nat.blt m 95) (cond (Nat.beq m 94) (5) (98)) (cond (Nat.beq m 95) (5) (98))) (cond (Nat.blt m 97) (cond (Nat.beq m 96) (5) (98)) (cond (Nat.blt m 98) (cond (Nat.beq m 97) (50) (98)) (cond (Nat.beq m 98) (50) (98)))))))) (cond (Nat.blt m 115) (cond (Nat.blt m 107) (cond (Nat.blt m 103) (cond (Nat.blt m 101) (cond (Nat.blt m 100) (cond (Nat.beq m 99) (50) (98)) (cond (Nat.beq m 100) (6) (98))) (cond (Nat.blt m 102) (cond (Nat.beq m 101) (6) (98)) (cond (Nat.beq m 102) (6) (98)))) (cond (Nat.blt m 105) (cond (Nat.blt m 104) (cond (Nat.beq m 103) (6) (98)) (cond (Nat.beq m 104) (6) (98))) (cond (Nat.blt m 106) (cond (Nat.beq m 105) (6) (98)) (cond (Nat.beq m 106) (6) (98))))) (cond (Nat.blt m 111) (cond (Nat.blt m 109) (cond (Nat.blt m 108) (cond (Nat.beq m 107) (6) (98)) (cond (Nat.beq m 108) (6) (98))) (cond (Nat.blt m 110) (cond (Nat.beq m 109) (7) (98)) (cond (Nat.beq m 110) (7) (98)))) (cond (Nat.blt m 113) (cond (Nat.blt m 112) (cond (Nat.beq m 111) (7) (98)) (cond (Nat.beq m 112) (7) (98))) (cond (Nat.blt m 114) (cond (Nat.beq m 113) (7) (98)) (cond (Nat.beq m 114) (7) (98)))))) (cond (Nat.blt m 123) (cond (Nat.blt m 119) (cond (Nat.blt m 117) (cond (Nat.blt m 116) (cond (Nat.beq m 115) (7) (98)) (cond (Nat.beq m 116) (7) (98))) (cond (Nat.blt m 118) (cond (Nat.beq m 117) (7) (98)) (cond (Nat.beq m 118) (7) (98)))) (cond (Nat.blt m 121) (cond (Nat.blt m 120) (cond (Nat.beq m 119) (7) (98)) (cond (Nat.beq m 120) (7) (98))) (cond (Nat.blt m 122) (cond (Nat.beq m 121) (7) (98)) (cond (Nat.beq m 122) (7) (98))))) (cond (Nat.blt m 127) (cond (Nat.blt m 125) (cond (Nat.blt m 124) (cond (Nat.beq m 123) (7) (98)) (cond (Nat.beq m 124) (7) (98))) (cond (Nat.blt m 126) (cond (Nat.beq m 125) (7) (98)) (cond (Nat.beq m 126) (7) (98)))) (cond (Nat.blt m 129) (cond (Nat.blt m 128) (cond (Nat.beq m 127) (7) (98)) (cond (Nat.beq m 128) (7) (98))) (cond (Nat.blt m 130) (cond (Nat.beq m 129) (7) (98)) (cond (Nat.blt m 131) (cond (Nat.beq m 130) (7) (98)) (cond (Nat.beq m 131) (7) (98)))))))))) (cond (Nat.blt m 198) (cond (Nat.blt m 165) (cond (Nat.blt m 148) (cond (Nat.blt m 140) (cond (Nat.blt m 136) (cond (Nat.blt m 134) (cond (Nat.blt m 133) (cond (Nat.beq m 132) (7) (98)) (cond (Nat.beq m 133) (7) (98))) (cond (Nat.blt m 135) (cond (Nat.beq m 134) (7) (98)) (cond (Nat.beq m 135) (7) (98)))) (cond (Nat.blt m 138) (cond (Nat.blt m 137) (cond (Nat.beq m 136) (7) (98)) (cond (Nat.beq m 137) (7) (98))) (cond (Nat.blt m 139) (cond (Nat.beq m 138) (7) (98)) (cond (Nat.beq m 139) (7) (98))))) (cond (Nat.blt m 144) (cond (Nat.blt m 142) (cond (Nat.blt m 141) (cond (Nat.beq m 140) (7) (98)) (cond (Nat.beq m 141) (7) (98))) (cond (Nat.blt m 143) (cond (Nat.beq m 142) (7) (98)) (cond (Nat.beq m 143) (7) (98)))) (cond (Nat.blt m 146) (cond (Nat.blt m 145) (cond (Nat.beq m 144) (7) (98)) (cond (Nat.beq m 145) (7) (98))) (cond (Nat.blt m 147) (cond (Nat.beq m 146) (7) (98)) (cond (Nat.beq m 147) (7) (98)))))) (cond (Nat.blt m 156) (cond (Nat.blt m 152) (cond (Nat.blt m 150) (cond (Nat.blt m 149) (cond (Nat.beq m 148) (7) (98)) (cond (Nat.beq m 149) (7) (98))) (cond (Nat.blt m 151) (cond (Nat.beq m 150) (7) (98)) (cond (Nat.beq m 151) (7) (98)))) (cond (Nat.blt m 154) (cond (Nat.blt m 153) (cond (Nat.beq m 152) (8) (98)) (cond (Nat.beq m 153) (8) (98))) (cond (Nat.blt m 155) (cond (Nat.beq m 154) (8) (98)) (cond (Nat.beq m 155) (8) (98))))) (cond (Nat.blt m 160) (cond (Nat.blt m 158) (cond (Nat.blt m 157) (cond (Nat.beq m 156) (8) (98)) (cond (Nat.beq m 157) (8) (98))) (cond (Nat.blt m 159) (cond (Nat.beq m 158) (8) (98)) (cond (Nat.beq m 159) (8) (98)))) (cond (Nat.blt m 162) (cond (Nat.blt m 161) (cond (Nat.beq m 160) (8) (98)) (cond (Nat.beq m 161) (8) (98))) (cond (Nat.blt m 163) (cond (Nat.beq m 162) (8) (98)) (cond (Nat.blt m 164) (cond (Nat.beq m 163) (8) (98)) (cond (Nat.beq m 164) (8) (98)))))))) (cond (Nat.blt m 181) (cond (Nat.blt m 173) (cond (Nat.blt m 169) (cond (Nat.blt m 167) (cond (Nat.blt m 166) (cond (Nat.beq m 165) (8) (98)) (cond (Nat.beq m 166) (8) (98))) (cond (Nat.blt m 168) (cond (Nat.beq m 167) (8) (98)) (cond (Nat.beq m 168) (8) (98)))) (cond (Nat.blt m 171) (cond (Nat.blt m 170) (cond (Nat.beq m 169) (8) (98)) (cond (Nat.beq m 170) (8) (98))) (cond (Nat.blt m 172) (cond (Nat.beq m 171) (8) (98)) (cond (Nat.beq m 172) (8) (98))))) (cond (Nat.blt m 177) (cond (Nat.blt m 175) (cond (Nat.blt m 174) (cond (Nat.beq m 173) (8) (98)) (cond (Nat.beq m 174) (8) (98))) (cond (Nat.blt m 176) (cond (Nat.beq m 175) (8) (98)) (cond (Nat.beq m 176) (8) (98)))) (cond (Nat.blt m 179) (cond (Nat.blt m 178) (cond (Nat.beq m 177) (8) (98)) (cond (Nat.beq m 178) (8) (98))) (cond (Nat.blt m 180) (cond (Nat.beq m 179) (8) (98)) (cond (Nat.beq m 180) (8) (98)))))) (cond (Nat.blt m 189) (cond (Nat.blt m 185) (cond (Nat.blt m 183) (cond (Nat.blt m 182) (cond (Nat.beq m 181) (8) (98)) (cond (Nat.beq m 182) (8) (98))) (cond (Nat.blt m 184) (cond (Nat.beq m 183) (8) (98)) (cond (Nat.beq m 184) (8) (98)))) (cond (Nat.blt m 187) (cond (Nat.blt m 186) (cond (Nat.beq m 185) (8) (98)) (cond (Nat.beq m 186) (8) (98))) (cond (Nat.blt m 188) (cond (Nat.beq m 187) (8) (98)) (cond (Nat.beq m 188) (8) (98))))) (cond (Nat.blt m 193) (cond (Nat.blt m 191) (cond (Nat.blt m 190) (cond (Nat.beq m 189) (8) (98)) (cond (Nat.beq m 190) (8) (98))) (cond (Nat.blt m 192) (cond (Nat.beq m 191) (8) (98)) (cond (Nat.beq m 192) (8) (98)))) (cond (Nat.blt m 195) (cond (Nat.blt m 194) (cond (Nat.beq m 193) (8) (98)) (cond (Nat.beq m 194) (8) (98))) (cond (Nat.blt m 196) (cond (Nat.beq m 195) (8) (98)) (cond (Nat.blt m 197) (cond (Nat.beq m 196) (8) (98)) (cond (Nat.beq m 197) (8) (98))))))))) (cond (Nat.blt m 231) (cond (Nat.blt m 214) (cond (Nat.blt m 206) (cond (Nat.blt m 202) (cond (Nat.blt m 200) (cond (Nat.blt m 199) (cond (Nat.beq m 198) (8) (98)) (cond (Nat.beq m 199) (8) (98))) (cond (Nat.blt m 201) (cond (Nat.beq m 200) (8) (98)) (cond (Nat.beq m 201) (8) (98)))) (cond (Nat.blt m 204) (cond (Nat.blt m 203) (cond (Nat.beq m 202) (8) (98)) (cond (Nat.beq m 203) (8) (98))) (cond (Nat.blt m 205) (cond (Nat.beq m 204) (8) (98)) (cond (Nat.beq m 205) (8) (98))))) (cond (Nat.blt m 210) (cond (Nat.blt m 208) (cond (Nat.blt m 207) (cond (Nat.beq m 206) (8) (98)) (cond (Nat.beq m 207) (8) (98))) (cond (Nat.blt m 209) (cond (Nat.beq m 208) (8) (98)) (cond (Nat.beq m 209) (8) (98)))) (cond (Nat.blt m 212) (cond (Nat.blt m 211) (cond (Nat.beq m 210) (8) (98)) (cond (Nat.beq m 211) (8) (98))) (cond (Nat.blt m 213) (cond (Nat.beq m 212) (8) (98)) (cond (Nat.beq m 213) (8) (98)))))) (cond (Nat.blt m 222) (cond (Nat.blt m 218) (cond (Nat.blt m 216) (cond (Nat.blt m 215) (cond (Nat.beq m 214) (8) (98)) (cond (Nat.beq m 215) (8) (98))) (cond (Nat.blt m 217) (cond (Nat.beq m 216) (8) (98)) (cond (Nat.beq m 217) (8) (98)))) (cond (Nat.blt m 220) (cond (Nat.blt m 219) (cond (Nat.beq m 218) (8) (98)) (cond (Nat.beq m 219) (8) (98))) (cond (Nat.blt m 221) (cond (Nat.beq m 220) (8) (98)) (cond (Nat.beq m 221) (8) (98))))) (cond (Nat.blt m 226) (cond (Nat.blt m 224) (cond (Nat.blt m 223) (cond (Nat.beq m 222) (8) (98)) (cond (Nat.beq m 223) (8) (98))) (cond (Nat.blt m 225) (cond (Nat.beq m 224) (8) (98)) (cond (Nat.beq m 225) (8) (98)))) (cond (Nat.blt m 228) (cond (Nat.blt m 227) (cond (Nat.beq m 226) (8) (98)) (cond (Nat.beq m 227) (8) (98))) (cond (Nat.blt m 229) (cond (Nat.beq m 228) (8) (98)) (cond (Nat.blt m 230) (cond (Nat.beq m 229) (8) (98)) (cond (Nat.beq m 230) (8) (98)))))))) (cond (Nat.blt m 247) (cond (Nat.blt m 239) (cond (Nat.blt m 235) (cond (Nat.blt m 233) (cond (Nat.blt m 232) (cond (Nat.beq m 231) (8) (98)) (cond (Nat.beq m 232) (8) (98))) (cond (Nat.blt m 234) (cond (Nat.beq m 233) (8) (98)) (cond (Nat.beq m 234) (8) (98)))) (cond (Nat.blt m 237) (cond (Nat.blt m 236) (cond (Nat.beq m 235) (8) (98)) (cond (Nat.beq m 236) (8) (98))) (cond (Nat.blt m 238) (cond (Nat.beq m 237) (8) (98)) (cond (Nat.beq m 238) (8) (98))))) (cond (Nat.blt m 243) (cond (Nat.blt m 241) (cond (Nat.blt m 240) (cond (Nat.beq m 239) (8) (98)) (cond (Nat.beq m 240) (8) (98))) (cond (Nat.blt m 242) (cond (Nat.beq m 241) (8) (98)) (cond (Nat.beq m 242) (8) (98)))) (cond (Nat.blt m 245) (cond (Nat.blt m 244) (cond (Nat.beq m 243) (8) (98)) (cond (Nat.beq m 244) (8) (98))) (cond (Nat.blt m 246) (cond (Nat.beq m 245) (8) (98)) (cond (Nat.beq m 246) (8) (98)))))) (cond (Nat.blt m 255) (cond (Nat.blt m 251) (cond (Nat.blt m 249) (cond (Nat.blt m 248) (cond (Nat.beq m 247) (8) (98)) (cond (Nat.beq m 248) (8) (98))) (cond (Nat.blt m 250) (cond (Nat.beq m 249) (8) (98)) (cond (Nat.beq m 250) (8) (98)))) (cond (Nat.blt m 253) (cond (Nat.blt m 252) (cond (Nat.beq m 251) (8) (98)) (cond (Nat.beq m 252) (8) (98))) (cond (Nat.blt m 254) (cond (Nat.beq m 253) (8) (98)) (cond (Nat.beq m 254) (8) (98))))) (cond (Nat.blt m 259) (cond (Nat.blt m 257) (cond (Nat.blt m 256) (cond (Nat.beq m 255) (8) (98)) (cond (Nat.beq m 256) (8) (98))) (cond (Nat.blt m 258) (cond (Nat.beq m 257) (8) (98)) (cond (Nat.beq m 258) (8) (98)))) (cond (Nat.blt m 261) (cond (Nat.blt m 260) (cond (Nat.beq m 259) (8) (98)) (cond (Nat.beq m 260) (8) (98))) (cond (Nat.blt m 262) (cond (Nat.beq m 261) (8) (98)) (cond (Nat.blt m 263) (cond (Nat.beq m 262) (8) (98)) (cond (Nat.beq m 263) (52) (98))))))))))
def mNm (m : Nat) : String := cond (Nat.blt m 132) (cond (Nat.blt m 66) (cond (Nat.blt m 33) (cond (Nat.blt m 16) (cond (Nat.blt m 8) (cond (Nat.blt m 4) (cond (Nat.blt m 2) (cond (Nat.blt m 1) (cond (Nat.beq m 0) ("law") ("")) (cond (Nat.beq m 1) ("<init>") (""))) (cond (Nat.blt m 3) (cond (Nat.beq m 2) ("clear") ("")) (cond (Nat.beq m 3) ("take") ("")))) (cond (Nat.blt m 6) (cond (Nat.blt m 5) (cond (Nat.beq m 4) ("hasKey") ("")) (cond (Nat.beq m 5) ("hasImage") (""))) (cond (Nat.blt m 7) (cond (Nat.beq m 6) ("hasRecoveryImage") ("")) (cond (Nat.beq m 7) ("addKey") (""))))) (cond (Nat.blt m 12) (cond (Nat.blt m 10) (cond (Nat.blt m 9) (cond (Nat.beq m 8) ("addImage") ("")) (cond (Nat.beq m 9) ("digest") (""))) (cond (Nat.blt m 11) (cond (Nat.beq m 10) ("sign") ("")) (cond (Nat.beq m 11) ("<init>") ("")))) (cond (Nat.blt m 14) (cond (Nat.blt m 13) (cond (Nat.beq m 12) ("answer") ("")) (cond (Nat.beq m 13) ("startsBelow") (""))) (cond (Nat.blt m 15) (cond (Nat.beq m 14) ("drawDeed") ("")) (cond (Nat.beq m 15) ("attempt") ("")))))) (cond (Nat.blt m 24) (cond (Nat.blt m 20) (cond (Nat.blt m 18) (cond (Nat.blt m 17) (cond (Nat.beq m 16) ("tally") ("")) (cond (Nat.beq m 17) ("draw") (""))) (cond (Nat.blt m 19) (cond (Nat.beq m 18) ("<init>") ("")) (cond (Nat.beq m 19) ("cell") ("")))) (cond (Nat.blt m 22) (cond (Nat.blt m 21) (cond (Nat.beq m 20) ("setCell") ("")) (cond (Nat.beq m 21) ("turnBit") (""))) (cond (Nat.blt m 23) (cond (Nat.beq m 22) ("takeFrom") ("")) (cond (Nat.beq m 23) ("saveTo") (""))))) (cond (Nat.blt m 28) (cond (Nat.blt m 26) (cond (Nat.blt m 25) (cond (Nat.beq m 24) ("loadFrom") ("")) (cond (Nat.beq m 25) ("putImage") (""))) (cond (Nat.blt m 27) (cond (Nat.beq m 26) ("holdsImage") ("")) (cond (Nat.beq m 27) ("isOn") ("")))) (cond (Nat.blt m 30) (cond (Nat.blt m 29) (cond (Nat.beq m 28) ("turnOff") ("")) (cond (Nat.beq m 29) ("isWhole") (""))) (cond (Nat.blt m 31) (cond (Nat.beq m 30) ("sequence") ("")) (cond (Nat.blt m 32) (cond (Nat.beq m 31) ("newestPage") ("")) (cond (Nat.beq m 32) ("readFlags") ("")))))))) (cond (Nat.blt m 49) (cond (Nat.blt m 41) (cond (Nat.blt m 37) (cond (Nat.blt m 35) (cond (Nat.blt m 34) (cond (Nat.beq m 33) ("takeFlags") ("")) (cond (Nat.beq m 34) ("slotFlags") (""))) (cond (Nat.blt m 36) (cond (Nat.beq m 35) ("setSlotFlags") ("")) (cond (Nat.beq m 36) ("flagsAsOne") ("")))) (cond (Nat.blt m 39) (cond (Nat.blt m 38) (cond (Nat.beq m 37) ("putFlags") ("")) (cond (Nat.beq m 38) ("writeFlags") (""))) (cond (Nat.blt m 40) (cond (Nat.beq m 39) ("write") ("")) (cond (Nat.beq m 40) ("isRevoked") (""))))) (cond (Nat.blt m 45) (cond (Nat.blt m 43) (cond (Nat.blt m 42) (cond (Nat.beq m 41) ("version") ("")) (cond (Nat.beq m 42) ("reasonAgainst") (""))) (cond (Nat.blt m 44) (cond (Nat.beq m 43) ("hasSoundParts") ("")) (cond (Nat.beq m 44) ("recoveryCopy") ("")))) (cond (Nat.blt m 47) (cond (Nat.blt m 46) (cond (Nat.beq m 45) ("isJournalOpen") ("")) (cond (Nat.beq m 46) ("isAble") (""))) (cond (Nat.blt m 48) (cond (Nat.beq m 47) ("perform") ("")) (cond (Nat.beq m 48) ("startSlot") ("")))))) (cond (Nat.blt m 57) (cond (Nat.blt m 53) (cond (Nat.blt m 51) (cond (Nat.blt m 50) (cond (Nat.beq m 49) ("chosenSlot") ("")) (cond (Nat.beq m 50) ("standing") (""))) (cond (Nat.blt m 52) (cond (Nat.beq m 51) ("countTry") ("")) (cond (Nat.beq m 52) ("startRecovery") ("")))) (cond (Nat.blt m 55) (cond (Nat.blt m 54) (cond (Nat.beq m 53) ("noteStart") ("")) (cond (Nat.beq m 54) ("tellHealth") (""))) (cond (Nat.blt m 56) (cond (Nat.beq m 55) ("blowVersionFuses") ("")) (cond (Nat.beq m 56) ("blowKeyFuses") (""))))) (cond (Nat.blt m 61) (cond (Nat.blt m 59) (cond (Nat.blt m 58) (cond (Nat.beq m 57) ("openJournal") ("")) (cond (Nat.beq m 58) ("finishInstall") (""))) (cond (Nat.blt m 60) (cond (Nat.beq m 59) ("favour") ("")) (cond (Nat.beq m 60) ("refreshOther") ("")))) (cond (Nat.blt m 63) (cond (Nat.blt m 62) (cond (Nat.beq m 61) ("mendBoth") ("")) (cond (Nat.beq m 62) ("lay") (""))) (cond (Nat.blt m 64) (cond (Nat.beq m 63) ("passTicks") ("")) (cond (Nat.blt m 65) (cond (Nat.beq m 64) ("<init>") ("")) (cond (Nat.beq m 65) ("keep") (""))))))))) (cond (Nat.blt m 99) (cond (Nat.blt m 82) (cond (Nat.blt m 74) (cond (Nat.blt m 70) (cond (Nat.blt m 68) (cond (Nat.blt m 67) (cond (Nat.beq m 66) ("bringBack") ("")) (cond (Nat.beq m 67) ("forget") (""))) (cond (Nat.blt m 69) (cond (Nat.beq m 68) ("<init>") ("")) (cond (Nat.beq m 69) ("read") ("")))) (cond (Nat.blt m 72) (cond (Nat.blt m 71) (cond (Nat.beq m 70) ("readLine") ("")) (cond (Nat.beq m 71) ("readKey") (""))) (cond (Nat.blt m 73) (cond (Nat.beq m 72) ("readImage") ("")) (cond (Nat.beq m 73) ("readRevoked") (""))))) (cond (Nat.blt m 78) (cond (Nat.blt m 76) (cond (Nat.blt m 75) (cond (Nat.beq m 74) ("readParts") ("")) (cond (Nat.beq m 75) ("readLimit") (""))) (cond (Nat.blt m 77) (cond (Nat.beq m 76) ("readTries") ("")) (cond (Nat.beq m 77) ("readWatch") ("")))) (cond (Nat.blt m 80) (cond (Nat.blt m 79) (cond (Nat.beq m 78) ("takeWord") ("")) (cond (Nat.beq m 79) ("takeNumber") (""))) (cond (Nat.blt m 81) (cond (Nat.beq m 80) ("skipBlanks") ("")) (cond (Nat.beq m 81) ("byteAt") ("")))))) (cond (Nat.blt m 90) (cond (Nat.blt m 86) (cond (Nat.blt m 84) (cond (Nat.blt m 83) (cond (Nat.beq m 82) ("fail") ("")) (cond (Nat.beq m 83) ("isLetter") (""))) (cond (Nat.blt m 85) (cond (Nat.beq m 84) ("isDigit") ("")) (cond (Nat.beq m 85) ("<init>") ("")))) (cond (Nat.blt m 88) (cond (Nat.blt m 87) (cond (Nat.beq m 86) ("moveOrLength") ("")) (cond (Nat.beq m 87) ("moveAt") (""))) (cond (Nat.blt m 89) (cond (Nat.beq m 88) ("isThere") ("")) (cond (Nat.beq m 89) ("search") (""))))) (cond (Nat.blt m 94) (cond (Nat.blt m 92) (cond (Nat.blt m 91) (cond (Nat.beq m 90) ("findAlike") ("")) (cond (Nat.beq m 91) ("firstAlike") (""))) (cond (Nat.blt m 93) (cond (Nat.beq m 92) ("step") ("")) (cond (Nat.beq m 93) ("part") ("")))) (cond (Nat.blt m 96) (cond (Nat.blt m 95) (cond (Nat.beq m 94) ("pack") ("")) (cond (Nat.beq m 95) ("unpack") (""))) (cond (Nat.blt m 97) (cond (Nat.beq m 96) ("add") ("")) (cond (Nat.blt m 98) (cond (Nat.beq m 97) ("at") ("")) (cond (Nat.beq m 98) ("put") ("")))))))) (cond (Nat.blt m 115) (cond (Nat.blt m 107) (cond (Nat.blt m 103) (cond (Nat.blt m 101) (cond (Nat.blt m 100) (cond (Nat.beq m 99) ("copy") ("")) (cond (Nat.beq m 100) ("<init>") (""))) (cond (Nat.blt m 102) (cond (Nat.beq m 101) ("nextStart") ("")) (cond (Nat.beq m 102) ("writesOf") ("")))) (cond (Nat.blt m 105) (cond (Nat.blt m 104) (cond (Nat.beq m 103) ("countCuts") ("")) (cond (Nat.beq m 104) ("countTwos") (""))) (cond (Nat.blt m 106) (cond (Nat.beq m 105) ("countDeadBoots") ("")) (cond (Nat.beq m 106) ("bootsWithoutHealth") (""))))) (cond (Nat.blt m 111) (cond (Nat.blt m 109) (cond (Nat.blt m 108) (cond (Nat.beq m 107) ("slackBits") ("")) (cond (Nat.beq m 108) ("frailBits") (""))) (cond (Nat.blt m 110) (cond (Nat.beq m 109) ("<init>") ("")) (cond (Nat.beq m 110) ("feed") ("")))) (cond (Nat.blt m 113) (cond (Nat.blt m 112) (cond (Nat.beq m 111) ("feedNumber") ("")) (cond (Nat.beq m 112) ("end") (""))) (cond (Nat.blt m 114) (cond (Nat.beq m 113) ("bundle") ("")) (cond (Nat.beq m 114) ("image") ("")))))) (cond (Nat.blt m 123) (cond (Nat.blt m 119) (cond (Nat.blt m 117) (cond (Nat.blt m 116) (cond (Nat.beq m 115) ("factory") ("")) (cond (Nat.beq m 116) ("boot") (""))) (cond (Nat.blt m 118) (cond (Nat.beq m 117) ("health") ("")) (cond (Nat.beq m 118) ("install") ("")))) (cond (Nat.blt m 121) (cond (Nat.blt m 120) (cond (Nat.beq m 119) ("refresh") ("")) (cond (Nat.beq m 120) ("prefer") (""))) (cond (Nat.blt m 122) (cond (Nat.beq m 121) ("mend") ("")) (cond (Nat.beq m 122) ("resume") (""))))) (cond (Nat.blt m 127) (cond (Nat.blt m 125) (cond (Nat.blt m 124) (cond (Nat.beq m 123) ("act") ("")) (cond (Nat.beq m 124) ("waits") (""))) (cond (Nat.blt m 126) (cond (Nat.beq m 125) ("off") ("")) (cond (Nat.beq m 126) ("flip") ("")))) (cond (Nat.blt m 129) (cond (Nat.blt m 128) (cond (Nat.beq m 127) ("blot") ("")) (cond (Nat.beq m 128) ("undo") (""))) (cond (Nat.blt m 130) (cond (Nat.beq m 129) ("word") ("")) (cond (Nat.blt m 131) (cond (Nat.beq m 130) ("octet") ("")) (cond (Nat.beq m 131) ("journal") ("")))))))))) (cond (Nat.blt m 198) (cond (Nat.blt m 165) (cond (Nat.blt m 148) (cond (Nat.blt m 140) (cond (Nat.blt m 136) (cond (Nat.blt m 134) (cond (Nat.blt m 133) (cond (Nat.beq m 132) ("revoked") ("")) (cond (Nat.beq m 133) ("whole") (""))) (cond (Nat.blt m 135) (cond (Nat.beq m 134) ("flag") ("")) (cond (Nat.beq m 135) ("why") ("")))) (cond (Nat.blt m 138) (cond (Nat.blt m 137) (cond (Nat.beq m 136) ("next") ("")) (cond (Nat.beq m 137) ("cuts") (""))) (cond (Nat.blt m 139) (cond (Nat.beq m 138) ("twice") ("")) (cond (Nat.beq m 139) ("lasts") (""))))) (cond (Nat.blt m 144) (cond (Nat.blt m 142) (cond (Nat.blt m 141) (cond (Nat.beq m 140) ("slack") ("")) (cond (Nat.beq m 141) ("frail") (""))) (cond (Nat.blt m 143) (cond (Nat.beq m 142) ("route") ("")) (cond (Nat.beq m 143) ("draws") ("")))) (cond (Nat.blt m 146) (cond (Nat.blt m 145) (cond (Nat.beq m 144) ("life") ("")) (cond (Nat.beq m 145) ("started") (""))) (cond (Nat.blt m 147) (cond (Nat.beq m 146) ("least") ("")) (cond (Nat.beq m 147) ("count") ("")))))) (cond (Nat.blt m 156) (cond (Nat.blt m 152) (cond (Nat.blt m 150) (cond (Nat.blt m 149) (cond (Nat.beq m 148) ("countOfFlags") ("")) (cond (Nat.beq m 149) ("isSlot") (""))) (cond (Nat.blt m 151) (cond (Nat.beq m 150) ("isPage") ("")) (cond (Nat.beq m 151) ("isStore") ("")))) (cond (Nat.blt m 154) (cond (Nat.blt m 153) (cond (Nat.beq m 152) ("<init>") ("")) (cond (Nat.beq m 153) ("in") (""))) (cond (Nat.blt m 155) (cond (Nat.beq m 154) ("truth") ("")) (cond (Nat.beq m 155) ("feed") (""))))) (cond (Nat.blt m 160) (cond (Nat.blt m 158) (cond (Nat.blt m 157) (cond (Nat.beq m 156) ("puts") ("")) (cond (Nat.beq m 157) ("end") (""))) (cond (Nat.blt m 159) (cond (Nat.beq m 158) ("fails") ("")) (cond (Nat.beq m 159) ("isRight") ("")))) (cond (Nat.blt m 162) (cond (Nat.blt m 161) (cond (Nat.beq m 160) ("sign") ("")) (cond (Nat.beq m 161) ("nextSign") (""))) (cond (Nat.blt m 163) (cond (Nat.beq m 162) ("wordOf") ("")) (cond (Nat.blt m 164) (cond (Nat.beq m 163) ("wordLength") ("")) (cond (Nat.beq m 164) ("isWord") ("")))))))) (cond (Nat.blt m 181) (cond (Nat.blt m 173) (cond (Nat.blt m 169) (cond (Nat.blt m 167) (cond (Nat.blt m 166) (cond (Nat.beq m 165) ("takes") ("")) (cond (Nat.beq m 166) ("isDigit") (""))) (cond (Nat.blt m 168) (cond (Nat.beq m 167) ("number") ("")) (cond (Nat.beq m 168) ("readsKey") ("")))) (cond (Nat.blt m 171) (cond (Nat.blt m 170) (cond (Nat.beq m 169) ("digestOf") ("")) (cond (Nat.beq m 170) ("signOf") (""))) (cond (Nat.blt m 172) (cond (Nat.beq m 171) ("readsRevoked") ("")) (cond (Nat.beq m 172) ("readsParts") (""))))) (cond (Nat.blt m 177) (cond (Nat.blt m 175) (cond (Nat.blt m 174) (cond (Nat.beq m 173) ("readsImage") ("")) (cond (Nat.beq m 174) ("readsSetting") (""))) (cond (Nat.blt m 176) (cond (Nat.beq m 175) ("readsLine") ("")) (cond (Nat.beq m 176) ("bundle") ("")))) (cond (Nat.blt m 179) (cond (Nat.blt m 178) (cond (Nat.beq m 177) ("copiesBundle") ("")) (cond (Nat.beq m 178) ("isImage") (""))) (cond (Nat.blt m 180) (cond (Nat.beq m 179) ("image") ("")) (cond (Nat.beq m 180) ("keepsIn") ("")))))) (cond (Nat.blt m 189) (cond (Nat.blt m 185) (cond (Nat.blt m 183) (cond (Nat.blt m 182) (cond (Nat.beq m 181) ("laysFrom") ("")) (cond (Nat.beq m 182) ("remembers") (""))) (cond (Nat.blt m 184) (cond (Nat.beq m 183) ("undo") ("")) (cond (Nat.beq m 184) ("isOff") ("")))) (cond (Nat.blt m 187) (cond (Nat.blt m 186) (cond (Nat.beq m 185) ("isSlotRunning") ("")) (cond (Nat.beq m 186) ("begins") (""))) (cond (Nat.blt m 188) (cond (Nat.beq m 187) ("canWrite") ("")) (cond (Nat.beq m 188) ("writes") (""))))) (cond (Nat.blt m 193) (cond (Nat.blt m 191) (cond (Nat.blt m 190) (cond (Nat.beq m 189) ("pageAt") ("")) (cond (Nat.beq m 190) ("checkOf") (""))) (cond (Nat.blt m 192) (cond (Nat.beq m 191) ("isWhole") ("")) (cond (Nat.beq m 192) ("newest") ("")))) (cond (Nat.blt m 195) (cond (Nat.blt m 194) (cond (Nat.beq m 193) ("readsFlags") ("")) (cond (Nat.beq m 194) ("writesFlags") (""))) (cond (Nat.blt m 196) (cond (Nat.beq m 195) ("forgets") ("")) (cond (Nat.blt m 197) (cond (Nat.beq m 196) ("prefers") ("")) (cond (Nat.beq m 197) ("isRevoked") (""))))))))) (cond (Nat.blt m 231) (cond (Nat.blt m 214) (cond (Nat.blt m 206) (cond (Nat.blt m 202) (cond (Nat.blt m 200) (cond (Nat.blt m 199) (cond (Nat.beq m 198) ("areDigests") ("")) (cond (Nat.beq m 199) ("whyOf") (""))) (cond (Nat.blt m 201) (cond (Nat.beq m 200) ("versionOf") ("")) (cond (Nat.beq m 201) ("copyNow") ("")))) (cond (Nat.blt m 204) (cond (Nat.blt m 203) (cond (Nat.beq m 202) ("starts") ("")) (cond (Nat.beq m 203) ("slotChosen") (""))) (cond (Nat.blt m 205) (cond (Nat.beq m 204) ("boots") ("")) (cond (Nat.beq m 205) ("heals") (""))))) (cond (Nat.blt m 210) (cond (Nat.blt m 208) (cond (Nat.blt m 207) (cond (Nat.beq m 206) ("laysWords") ("")) (cond (Nat.beq m 207) ("isOpen") (""))) (cond (Nat.blt m 209) (cond (Nat.beq m 208) ("resumes") ("")) (cond (Nat.beq m 209) ("installs") ("")))) (cond (Nat.blt m 212) (cond (Nat.blt m 211) (cond (Nat.beq m 210) ("refreshes") ("")) (cond (Nat.beq m 211) ("prefersNow") (""))) (cond (Nat.blt m 213) (cond (Nat.beq m 212) ("mends") ("")) (cond (Nat.beq m 213) ("canDo") ("")))))) (cond (Nat.blt m 222) (cond (Nat.blt m 218) (cond (Nat.blt m 216) (cond (Nat.blt m 215) (cond (Nat.beq m 214) ("does") ("")) (cond (Nat.beq m 215) ("acts") (""))) (cond (Nat.blt m 217) (cond (Nat.beq m 216) ("boot") ("")) (cond (Nat.beq m 217) ("health") ("")))) (cond (Nat.blt m 220) (cond (Nat.blt m 219) (cond (Nat.beq m 218) ("install") ("")) (cond (Nat.beq m 219) ("refresh") (""))) (cond (Nat.blt m 221) (cond (Nat.beq m 220) ("prefer") ("")) (cond (Nat.beq m 221) ("mend") (""))))) (cond (Nat.blt m 226) (cond (Nat.blt m 224) (cond (Nat.blt m 223) (cond (Nat.beq m 222) ("resume") ("")) (cond (Nat.beq m 223) ("factory") (""))) (cond (Nat.blt m 225) (cond (Nat.beq m 224) ("waits") ("")) (cond (Nat.beq m 225) ("off") ("")))) (cond (Nat.blt m 228) (cond (Nat.blt m 227) (cond (Nat.beq m 226) ("flip") ("")) (cond (Nat.beq m 227) ("blot") (""))) (cond (Nat.blt m 229) (cond (Nat.beq m 228) ("word") ("")) (cond (Nat.blt m 230) (cond (Nat.beq m 229) ("octet") ("")) (cond (Nat.beq m 230) ("journal") ("")))))))) (cond (Nat.blt m 247) (cond (Nat.blt m 239) (cond (Nat.blt m 235) (cond (Nat.blt m 233) (cond (Nat.blt m 232) (cond (Nat.beq m 231) ("revoked") ("")) (cond (Nat.beq m 232) ("whole") (""))) (cond (Nat.blt m 234) (cond (Nat.beq m 233) ("flag") ("")) (cond (Nat.beq m 234) ("why") ("")))) (cond (Nat.blt m 237) (cond (Nat.blt m 236) (cond (Nat.beq m 235) ("thinks") ("")) (cond (Nat.beq m 236) ("putsBack") (""))) (cond (Nat.blt m 238) (cond (Nat.beq m 237) ("wouldStart") ("")) (cond (Nat.beq m 238) ("next") (""))))) (cond (Nat.blt m 243) (cond (Nat.blt m 241) (cond (Nat.blt m 240) (cond (Nat.beq m 239) ("keepsFlags") ("")) (cond (Nat.beq m 240) ("areFlags") (""))) (cond (Nat.blt m 242) (cond (Nat.beq m 241) ("writesOf") ("")) (cond (Nat.beq m 242) ("cuts") ("")))) (cond (Nat.blt m 245) (cond (Nat.blt m 244) (cond (Nat.beq m 243) ("twice") ("")) (cond (Nat.beq m 244) ("lasts") (""))) (cond (Nat.blt m 246) (cond (Nat.beq m 245) ("slack") ("")) (cond (Nat.beq m 246) ("frail") ("")))))) (cond (Nat.blt m 255) (cond (Nat.blt m 251) (cond (Nat.blt m 249) (cond (Nat.blt m 248) (cond (Nat.beq m 247) ("signs") ("")) (cond (Nat.beq m 248) ("areAlike") (""))) (cond (Nat.blt m 250) (cond (Nat.beq m 249) ("isThere") ("")) (cond (Nat.beq m 250) ("tries") ("")))) (cond (Nat.blt m 253) (cond (Nat.blt m 252) (cond (Nat.beq m 251) ("seeks") ("")) (cond (Nat.beq m 252) ("lengthOf") (""))) (cond (Nat.blt m 254) (cond (Nat.beq m 253) ("route") ("")) (cond (Nat.beq m 254) ("draws") (""))))) (cond (Nat.blt m 259) (cond (Nat.blt m 257) (cond (Nat.blt m 256) (cond (Nat.beq m 255) ("drawn") ("")) (cond (Nat.beq m 256) ("cutDrawn") (""))) (cond (Nat.blt m 258) (cond (Nat.beq m 257) ("happens") ("")) (cond (Nat.beq m 258) ("lives") ("")))) (cond (Nat.blt m 261) (cond (Nat.blt m 260) (cond (Nat.beq m 259) ("life") ("")) (cond (Nat.beq m 260) ("started") (""))) (cond (Nat.blt m 262) (cond (Nat.beq m 261) ("least") ("")) (cond (Nat.blt m 263) (cond (Nat.beq m 262) ("count") ("")) (cond (Nat.beq m 263) ("fill") (""))))))))))
def mDs (m : Nat) : String := cond (Nat.blt m 132) (cond (Nat.blt m 66) (cond (Nat.blt m 33) (cond (Nat.blt m 16) (cond (Nat.blt m 8) (cond (Nat.blt m 4) (cond (Nat.blt m 2) (cond (Nat.blt m 1) (cond (Nat.beq m 0) ("([I)Z") ("")) (cond (Nat.beq m 1) ("()V") (""))) (cond (Nat.blt m 3) (cond (Nat.beq m 2) ("()V") ("")) (cond (Nat.beq m 3) ("(LTwinSlots$Bundle;)V") ("")))) (cond (Nat.blt m 6) (cond (Nat.blt m 5) (cond (Nat.beq m 4) ("(I)Z") ("")) (cond (Nat.beq m 5) ("(I)Z") (""))) (cond (Nat.blt m 7) (cond (Nat.beq m 6) ("(I)Z") ("")) (cond (Nat.beq m 7) ("(II)V") (""))))) (cond (Nat.blt m 12) (cond (Nat.blt m 10) (cond (Nat.blt m 9) (cond (Nat.beq m 8) ("(IIII)V") ("")) (cond (Nat.beq m 9) ("(II)I") (""))) (cond (Nat.blt m 11) (cond (Nat.beq m 10) ("([II)I") ("")) (cond (Nat.beq m 11) ("(LTwinSlots$Bundle;LTwinSlots$Machine;)V") ("")))) (cond (Nat.blt m 14) (cond (Nat.blt m 13) (cond (Nat.beq m 12) ("(III)I") ("")) (cond (Nat.beq m 13) ("(I)I") (""))) (cond (Nat.blt m 15) (cond (Nat.beq m 14) ("()V") ("")) (cond (Nat.beq m 15) ("()V") ("")))))) (cond (Nat.blt m 24) (cond (Nat.blt m 20) (cond (Nat.blt m 18) (cond (Nat.blt m 17) (cond (Nat.beq m 16) ("(I)V") ("")) (cond (Nat.beq m 17) ("(I)I") (""))) (cond (Nat.blt m 19) (cond (Nat.beq m 18) ("(LTwinSlots$Bundle;)V") ("")) (cond (Nat.beq m 19) ("(I)I") ("")))) (cond (Nat.blt m 22) (cond (Nat.blt m 21) (cond (Nat.beq m 20) ("(II)V") ("")) (cond (Nat.beq m 21) ("(II)I") (""))) (cond (Nat.blt m 23) (cond (Nat.beq m 22) ("(LTwinSlots$Machine;)V") ("")) (cond (Nat.beq m 23) ("([II)V") (""))))) (cond (Nat.blt m 28) (cond (Nat.blt m 26) (cond (Nat.blt m 25) (cond (Nat.beq m 24) ("([II)V") ("")) (cond (Nat.beq m 25) ("(II)V") (""))) (cond (Nat.blt m 27) (cond (Nat.beq m 26) ("(II)Z") ("")) (cond (Nat.beq m 27) ("()Z") ("")))) (cond (Nat.blt m 30) (cond (Nat.blt m 29) (cond (Nat.beq m 28) ("()V") ("")) (cond (Nat.beq m 29) ("(I)Z") (""))) (cond (Nat.blt m 31) (cond (Nat.beq m 30) ("(I)I") ("")) (cond (Nat.blt m 32) (cond (Nat.beq m 31) ("()I") ("")) (cond (Nat.beq m 32) ("()V") ("")))))))) (cond (Nat.blt m 49) (cond (Nat.blt m 41) (cond (Nat.blt m 37) (cond (Nat.blt m 35) (cond (Nat.blt m 34) (cond (Nat.beq m 33) ("(IIII)V") ("")) (cond (Nat.beq m 34) ("(I)I") (""))) (cond (Nat.blt m 36) (cond (Nat.beq m 35) ("(II)V") ("")) (cond (Nat.beq m 36) ("()I") ("")))) (cond (Nat.blt m 39) (cond (Nat.blt m 38) (cond (Nat.beq m 37) ("(IIII)V") ("")) (cond (Nat.beq m 38) ("()V") (""))) (cond (Nat.blt m 40) (cond (Nat.beq m 39) ("(III)V") ("")) (cond (Nat.beq m 40) ("(I)Z") (""))))) (cond (Nat.blt m 45) (cond (Nat.blt m 43) (cond (Nat.blt m 42) (cond (Nat.beq m 41) ("(I)I") ("")) (cond (Nat.beq m 42) ("(I)I") (""))) (cond (Nat.blt m 44) (cond (Nat.beq m 43) ("(II)Z") ("")) (cond (Nat.beq m 44) ("()I") ("")))) (cond (Nat.blt m 47) (cond (Nat.blt m 46) (cond (Nat.beq m 45) ("()Z") ("")) (cond (Nat.beq m 46) ("(III)Z") (""))) (cond (Nat.blt m 48) (cond (Nat.beq m 47) ("(IIII)I") ("")) (cond (Nat.beq m 48) ("(Z)I") ("")))))) (cond (Nat.blt m 57) (cond (Nat.blt m 53) (cond (Nat.blt m 51) (cond (Nat.blt m 50) (cond (Nat.beq m 49) ("()I") ("")) (cond (Nat.beq m 50) ("(I)I") (""))) (cond (Nat.blt m 52) (cond (Nat.beq m 51) ("(I)V") ("")) (cond (Nat.beq m 52) ("(I)I") ("")))) (cond (Nat.blt m 55) (cond (Nat.blt m 54) (cond (Nat.beq m 53) ("(II)V") ("")) (cond (Nat.beq m 54) ("()I") (""))) (cond (Nat.blt m 56) (cond (Nat.beq m 55) ("(I)V") ("")) (cond (Nat.beq m 56) ("(I)V") (""))))) (cond (Nat.blt m 61) (cond (Nat.blt m 59) (cond (Nat.blt m 58) (cond (Nat.beq m 57) ("(II)V") ("")) (cond (Nat.beq m 58) ("(II)I") (""))) (cond (Nat.blt m 60) (cond (Nat.beq m 59) ("(I)V") ("")) (cond (Nat.beq m 60) ("(II)I") ("")))) (cond (Nat.blt m 63) (cond (Nat.blt m 62) (cond (Nat.beq m 61) ("()I") ("")) (cond (Nat.beq m 62) ("(I[II)V") (""))) (cond (Nat.blt m 64) (cond (Nat.beq m 63) ("(I)I") ("")) (cond (Nat.blt m 65) (cond (Nat.beq m 64) ("(LTwinSlots$Machine;)V") ("")) (cond (Nat.beq m 65) ("()V") (""))))))))) (cond (Nat.blt m 99) (cond (Nat.blt m 82) (cond (Nat.blt m 74) (cond (Nat.blt m 70) (cond (Nat.blt m 68) (cond (Nat.blt m 67) (cond (Nat.beq m 66) ("()I") ("")) (cond (Nat.beq m 67) ("()V") (""))) (cond (Nat.blt m 69) (cond (Nat.beq m 68) ("([ILTwinSlots$Bundle;)V") ("")) (cond (Nat.beq m 69) ("(I)I") ("")))) (cond (Nat.blt m 72) (cond (Nat.blt m 71) (cond (Nat.beq m 70) ("()Z") ("")) (cond (Nat.beq m 71) ("(I)Z") (""))) (cond (Nat.blt m 73) (cond (Nat.beq m 72) ("(I)Z") ("")) (cond (Nat.beq m 73) ("()I") (""))))) (cond (Nat.blt m 78) (cond (Nat.blt m 76) (cond (Nat.blt m 75) (cond (Nat.beq m 74) ("()I") ("")) (cond (Nat.beq m 75) ("(I)Z") (""))) (cond (Nat.blt m 77) (cond (Nat.beq m 76) ("(I)Z") ("")) (cond (Nat.beq m 77) ("(I)Z") ("")))) (cond (Nat.blt m 80) (cond (Nat.blt m 79) (cond (Nat.beq m 78) ("(Ljava/lang/String;)Z") ("")) (cond (Nat.beq m 79) ("(II)Z") (""))) (cond (Nat.blt m 81) (cond (Nat.beq m 80) ("()V") ("")) (cond (Nat.beq m 81) ("(I)I") ("")))))) (cond (Nat.blt m 90) (cond (Nat.blt m 86) (cond (Nat.blt m 84) (cond (Nat.blt m 83) (cond (Nat.beq m 82) ("(II)Z") ("")) (cond (Nat.beq m 83) ("(I)Z") (""))) (cond (Nat.blt m 85) (cond (Nat.beq m 84) ("(I)Z") ("")) (cond (Nat.beq m 85) ("(LTwinSlots$Bundle;LTwinSlots$Machine;)V") ("")))) (cond (Nat.blt m 88) (cond (Nat.blt m 87) (cond (Nat.beq m 86) ("(I)I") ("")) (cond (Nat.beq m 87) ("(I)I") (""))) (cond (Nat.blt m 89) (cond (Nat.beq m 88) ("(I)Z") ("")) (cond (Nat.beq m 89) ("(I)I") (""))))) (cond (Nat.blt m 94) (cond (Nat.blt m 92) (cond (Nat.blt m 91) (cond (Nat.beq m 90) ("()V") ("")) (cond (Nat.beq m 91) ("(II)I") (""))) (cond (Nat.blt m 93) (cond (Nat.beq m 92) ("(III)I") ("")) (cond (Nat.beq m 93) ("(JII)I") ("")))) (cond (Nat.blt m 96) (cond (Nat.blt m 95) (cond (Nat.beq m 94) ("(II)J") ("")) (cond (Nat.beq m 95) ("(J)V") (""))) (cond (Nat.blt m 97) (cond (Nat.beq m 96) ("(JII)I") ("")) (cond (Nat.blt m 98) (cond (Nat.beq m 97) ("([II)I") ("")) (cond (Nat.beq m 98) ("([III)V") ("")))))))) (cond (Nat.blt m 115) (cond (Nat.blt m 107) (cond (Nat.blt m 103) (cond (Nat.blt m 101) (cond (Nat.blt m 100) (cond (Nat.beq m 99) ("([II[III)V") ("")) (cond (Nat.beq m 100) ("(LTwinSlots$Bundle;LTwinSlots$Machine;)V") (""))) (cond (Nat.blt m 102) (cond (Nat.beq m 101) ("(Z)I") ("")) (cond (Nat.beq m 102) ("(III)I") ("")))) (cond (Nat.blt m 105) (cond (Nat.blt m 104) (cond (Nat.beq m 103) ("(IIII)I") ("")) (cond (Nat.beq m 104) ("(III)I") (""))) (cond (Nat.blt m 106) (cond (Nat.beq m 105) ("()I") ("")) (cond (Nat.beq m 106) ("(I)I") (""))))) (cond (Nat.blt m 111) (cond (Nat.blt m 109) (cond (Nat.blt m 108) (cond (Nat.beq m 107) ("(I)I") ("")) (cond (Nat.beq m 108) ("(I)I") (""))) (cond (Nat.blt m 110) (cond (Nat.beq m 109) ("()V") ("")) (cond (Nat.beq m 110) ("(IIIII)I") ("")))) (cond (Nat.blt m 113) (cond (Nat.blt m 112) (cond (Nat.beq m 111) ("(I)V") ("")) (cond (Nat.beq m 112) ("(I)I") (""))) (cond (Nat.blt m 114) (cond (Nat.beq m 113) ("()I") ("")) (cond (Nat.beq m 114) ("(II)I") ("")))))) (cond (Nat.blt m 123) (cond (Nat.blt m 119) (cond (Nat.blt m 117) (cond (Nat.blt m 116) (cond (Nat.beq m 115) ("(I)Z") ("")) (cond (Nat.beq m 116) ("(ZI)I") (""))) (cond (Nat.blt m 118) (cond (Nat.beq m 117) ("(I)I") ("")) (cond (Nat.beq m 118) ("(III)I") ("")))) (cond (Nat.blt m 121) (cond (Nat.blt m 120) (cond (Nat.beq m 119) ("(II)I") ("")) (cond (Nat.beq m 120) ("(II)I") (""))) (cond (Nat.blt m 122) (cond (Nat.beq m 121) ("(I)I") ("")) (cond (Nat.beq m 122) ("(I)I") (""))))) (cond (Nat.blt m 127) (cond (Nat.blt m 125) (cond (Nat.blt m 124) (cond (Nat.beq m 123) ("(IIII)I") ("")) (cond (Nat.beq m 124) ("(I)I") (""))) (cond (Nat.blt m 126) (cond (Nat.beq m 125) ("()Z") ("")) (cond (Nat.beq m 126) ("(III)I") ("")))) (cond (Nat.blt m 129) (cond (Nat.blt m 128) (cond (Nat.beq m 127) ("(III)I") ("")) (cond (Nat.beq m 128) ("()I") (""))) (cond (Nat.blt m 130) (cond (Nat.beq m 129) ("(II)I") ("")) (cond (Nat.blt m 131) (cond (Nat.beq m 130) ("(II)I") ("")) (cond (Nat.beq m 131) ("(I)I") ("")))))))))) (cond (Nat.blt m 198) (cond (Nat.blt m 165) (cond (Nat.blt m 148) (cond (Nat.blt m 140) (cond (Nat.blt m 136) (cond (Nat.blt m 134) (cond (Nat.blt m 133) (cond (Nat.beq m 132) ("(I)I") ("")) (cond (Nat.beq m 133) ("(I)I") (""))) (cond (Nat.blt m 135) (cond (Nat.beq m 134) ("(II)I") ("")) (cond (Nat.beq m 135) ("(I)I") ("")))) (cond (Nat.blt m 138) (cond (Nat.blt m 137) (cond (Nat.beq m 136) ("(Z)I") ("")) (cond (Nat.beq m 137) ("(IIII)I") (""))) (cond (Nat.blt m 139) (cond (Nat.beq m 138) ("(III)I") ("")) (cond (Nat.beq m 139) ("(I)I") (""))))) (cond (Nat.blt m 144) (cond (Nat.blt m 142) (cond (Nat.blt m 141) (cond (Nat.beq m 140) ("(I)I") ("")) (cond (Nat.beq m 141) ("(I)I") (""))) (cond (Nat.blt m 143) (cond (Nat.beq m 142) ("(II)I") ("")) (cond (Nat.beq m 143) ("(I)I") ("")))) (cond (Nat.blt m 146) (cond (Nat.blt m 145) (cond (Nat.beq m 144) ("(II)I") ("")) (cond (Nat.beq m 145) ("(II)I") (""))) (cond (Nat.blt m 147) (cond (Nat.beq m 146) ("(I)I") ("")) (cond (Nat.beq m 147) ("(I)I") ("")))))) (cond (Nat.blt m 156) (cond (Nat.blt m 152) (cond (Nat.blt m 150) (cond (Nat.blt m 149) (cond (Nat.beq m 148) ("(I)I") ("")) (cond (Nat.beq m 149) ("(I)Z") (""))) (cond (Nat.blt m 151) (cond (Nat.beq m 150) ("(I)Z") ("")) (cond (Nat.beq m 151) ("(I)Z") ("")))) (cond (Nat.blt m 154) (cond (Nat.blt m 153) (cond (Nat.beq m 152) ("()V") ("")) (cond (Nat.beq m 153) ("(JJJ)Z") (""))) (cond (Nat.blt m 155) (cond (Nat.beq m 154) ("(Z)I") ("")) (cond (Nat.beq m 155) ("(IIIII)I") (""))))) (cond (Nat.blt m 160) (cond (Nat.blt m 158) (cond (Nat.blt m 157) (cond (Nat.beq m 156) ("(I)V") ("")) (cond (Nat.beq m 157) ("(I)I") (""))) (cond (Nat.blt m 159) (cond (Nat.beq m 158) ("(II)V") ("")) (cond (Nat.beq m 159) ("()Z") ("")))) (cond (Nat.blt m 162) (cond (Nat.blt m 161) (cond (Nat.beq m 160) ("()I") ("")) (cond (Nat.beq m 161) ("()I") (""))) (cond (Nat.blt m 163) (cond (Nat.beq m 162) ("(I)Ljava/lang/String;") ("")) (cond (Nat.blt m 164) (cond (Nat.beq m 163) ("()I") ("")) (cond (Nat.beq m 164) ("(I)Z") ("")))))))) (cond (Nat.blt m 181) (cond (Nat.blt m 173) (cond (Nat.blt m 169) (cond (Nat.blt m 167) (cond (Nat.blt m 166) (cond (Nat.beq m 165) ("(I)Z") ("")) (cond (Nat.beq m 166) ("()Z") (""))) (cond (Nat.blt m 168) (cond (Nat.beq m 167) ("(II)I") ("")) (cond (Nat.beq m 168) ("(I)V") ("")))) (cond (Nat.blt m 171) (cond (Nat.blt m 170) (cond (Nat.beq m 169) ("(JJ)I") ("")) (cond (Nat.beq m 170) ("(I[II)I") (""))) (cond (Nat.blt m 172) (cond (Nat.beq m 171) ("(I)V") ("")) (cond (Nat.beq m 172) ("(I)V") (""))))) (cond (Nat.blt m 177) (cond (Nat.blt m 175) (cond (Nat.blt m 174) (cond (Nat.beq m 173) ("(I)V") ("")) (cond (Nat.beq m 174) ("(II)V") (""))) (cond (Nat.blt m 176) (cond (Nat.beq m 175) ("()V") ("")) (cond (Nat.beq m 176) ("()I") ("")))) (cond (Nat.blt m 179) (cond (Nat.blt m 178) (cond (Nat.beq m 177) ("()V") ("")) (cond (Nat.beq m 178) ("(I)Z") (""))) (cond (Nat.blt m 180) (cond (Nat.beq m 179) ("(II)I") ("")) (cond (Nat.beq m 180) ("([II)V") ("")))))) (cond (Nat.blt m 189) (cond (Nat.blt m 185) (cond (Nat.blt m 183) (cond (Nat.blt m 182) (cond (Nat.beq m 181) ("([II)V") ("")) (cond (Nat.beq m 182) ("()V") (""))) (cond (Nat.blt m 184) (cond (Nat.beq m 183) ("()I") ("")) (cond (Nat.beq m 184) ("()Z") ("")))) (cond (Nat.blt m 187) (cond (Nat.blt m 186) (cond (Nat.beq m 185) ("()Z") ("")) (cond (Nat.beq m 186) ("(I)V") (""))) (cond (Nat.blt m 188) (cond (Nat.beq m 187) ("()Z") ("")) (cond (Nat.beq m 188) ("(II)V") (""))))) (cond (Nat.blt m 193) (cond (Nat.blt m 191) (cond (Nat.blt m 190) (cond (Nat.beq m 189) ("(I)I") ("")) (cond (Nat.beq m 190) ("(I)I") (""))) (cond (Nat.blt m 192) (cond (Nat.beq m 191) ("(I)Z") ("")) (cond (Nat.beq m 192) ("()I") ("")))) (cond (Nat.blt m 195) (cond (Nat.blt m 194) (cond (Nat.beq m 193) ("()V") ("")) (cond (Nat.beq m 194) ("()V") (""))) (cond (Nat.blt m 196) (cond (Nat.beq m 195) ("(I)V") ("")) (cond (Nat.blt m 197) (cond (Nat.beq m 196) ("(I)V") ("")) (cond (Nat.beq m 197) ("(I)Z") (""))))))))) (cond (Nat.blt m 231) (cond (Nat.blt m 214) (cond (Nat.blt m 206) (cond (Nat.blt m 202) (cond (Nat.blt m 200) (cond (Nat.blt m 199) (cond (Nat.beq m 198) ("(I)Z") ("")) (cond (Nat.beq m 199) ("(I)I") (""))) (cond (Nat.blt m 201) (cond (Nat.beq m 200) ("(I)I") ("")) (cond (Nat.beq m 201) ("()I") ("")))) (cond (Nat.blt m 204) (cond (Nat.blt m 203) (cond (Nat.beq m 202) ("(II)V") ("")) (cond (Nat.beq m 203) ("()I") (""))) (cond (Nat.blt m 205) (cond (Nat.beq m 204) ("(Z)I") ("")) (cond (Nat.beq m 205) ("()I") (""))))) (cond (Nat.blt m 210) (cond (Nat.blt m 208) (cond (Nat.blt m 207) (cond (Nat.beq m 206) ("(I[II)V") ("")) (cond (Nat.beq m 207) ("()Z") (""))) (cond (Nat.blt m 209) (cond (Nat.beq m 208) ("()V") ("")) (cond (Nat.beq m 209) ("(II)I") ("")))) (cond (Nat.blt m 212) (cond (Nat.blt m 211) (cond (Nat.beq m 210) ("(I)I") ("")) (cond (Nat.beq m 211) ("(I)I") (""))) (cond (Nat.blt m 213) (cond (Nat.beq m 212) ("()I") ("")) (cond (Nat.beq m 213) ("(III)Z") ("")))))) (cond (Nat.blt m 222) (cond (Nat.blt m 218) (cond (Nat.blt m 216) (cond (Nat.blt m 215) (cond (Nat.beq m 214) ("(IIII)I") ("")) (cond (Nat.beq m 215) ("(IIII)I") (""))) (cond (Nat.blt m 217) (cond (Nat.beq m 216) ("(ZI)I") ("")) (cond (Nat.beq m 217) ("(I)I") ("")))) (cond (Nat.blt m 220) (cond (Nat.blt m 219) (cond (Nat.beq m 218) ("(III)I") ("")) (cond (Nat.beq m 219) ("(II)I") (""))) (cond (Nat.blt m 221) (cond (Nat.beq m 220) ("(II)I") ("")) (cond (Nat.beq m 221) ("(I)I") (""))))) (cond (Nat.blt m 226) (cond (Nat.blt m 224) (cond (Nat.blt m 223) (cond (Nat.beq m 222) ("(I)I") ("")) (cond (Nat.beq m 223) ("(I)Z") (""))) (cond (Nat.blt m 225) (cond (Nat.beq m 224) ("(I)I") ("")) (cond (Nat.beq m 225) ("()Z") ("")))) (cond (Nat.blt m 228) (cond (Nat.blt m 227) (cond (Nat.beq m 226) ("(III)I") ("")) (cond (Nat.beq m 227) ("(III)I") (""))) (cond (Nat.blt m 229) (cond (Nat.beq m 228) ("(II)I") ("")) (cond (Nat.blt m 230) (cond (Nat.beq m 229) ("(II)I") ("")) (cond (Nat.beq m 230) ("(I)I") ("")))))))) (cond (Nat.blt m 247) (cond (Nat.blt m 239) (cond (Nat.blt m 235) (cond (Nat.blt m 233) (cond (Nat.blt m 232) (cond (Nat.beq m 231) ("(I)I") ("")) (cond (Nat.beq m 232) ("(I)I") (""))) (cond (Nat.blt m 234) (cond (Nat.beq m 233) ("(II)I") ("")) (cond (Nat.beq m 234) ("(I)I") ("")))) (cond (Nat.blt m 237) (cond (Nat.blt m 236) (cond (Nat.beq m 235) ("(I)V") ("")) (cond (Nat.beq m 236) ("(I)V") (""))) (cond (Nat.blt m 238) (cond (Nat.beq m 237) ("(Z)I") ("")) (cond (Nat.beq m 238) ("(Z)I") (""))))) (cond (Nat.blt m 243) (cond (Nat.blt m 241) (cond (Nat.blt m 240) (cond (Nat.beq m 239) ("([I)V") ("")) (cond (Nat.beq m 240) ("([I)Z") (""))) (cond (Nat.blt m 242) (cond (Nat.beq m 241) ("(III)I") ("")) (cond (Nat.beq m 242) ("(IIII)I") ("")))) (cond (Nat.blt m 245) (cond (Nat.blt m 244) (cond (Nat.beq m 243) ("(III)I") ("")) (cond (Nat.beq m 244) ("(I)I") (""))) (cond (Nat.blt m 246) (cond (Nat.beq m 245) ("(I)I") ("")) (cond (Nat.beq m 246) ("(I)I") ("")))))) (cond (Nat.blt m 255) (cond (Nat.blt m 251) (cond (Nat.blt m 249) (cond (Nat.blt m 248) (cond (Nat.beq m 247) ("(I)V") ("")) (cond (Nat.beq m 248) ("(II)Z") (""))) (cond (Nat.blt m 250) (cond (Nat.beq m 249) ("(I)Z") ("")) (cond (Nat.beq m 250) ("(I)Z") ("")))) (cond (Nat.blt m 253) (cond (Nat.blt m 252) (cond (Nat.beq m 251) ("(I)I") ("")) (cond (Nat.beq m 252) ("(I)I") (""))) (cond (Nat.blt m 254) (cond (Nat.beq m 253) ("(II)I") ("")) (cond (Nat.beq m 254) ("(I)I") (""))))) (cond (Nat.blt m 259) (cond (Nat.blt m 257) (cond (Nat.blt m 256) (cond (Nat.beq m 255) ("(I)I") ("")) (cond (Nat.beq m 256) ("()I") (""))) (cond (Nat.blt m 258) (cond (Nat.beq m 257) ("(IIII)V") ("")) (cond (Nat.beq m 258) ("()V") ("")))) (cond (Nat.blt m 261) (cond (Nat.blt m 260) (cond (Nat.beq m 259) ("(II)I") ("")) (cond (Nat.beq m 260) ("(II)I") (""))) (cond (Nat.blt m 262) (cond (Nat.beq m 261) ("(I)I") ("")) (cond (Nat.blt m 263) (cond (Nat.beq m 262) ("(I)I") ("")) (cond (Nat.beq m 263) ("([II)V") (""))))))))))
def mN (m : Nat) : Jvm.MethodName := ⟨cN (mOwn m), mNm m, mDs m⟩
def mCode (m : Nat) : ByteArray := cond (Nat.blt m 132) (cond (Nat.blt m 66) (cond (Nat.blt m 33) (cond (Nat.blt m 16) (cond (Nat.blt m 8) (cond (Nat.blt m 4) (cond (Nat.blt m 2) (cond (Nat.blt m 1) (cond (Nat.beq m 0) (code) (.mk #[])) (cond (Nat.beq m 1) (prog_2_method_1_code) (.mk #[]))) (cond (Nat.blt m 3) (cond (Nat.beq m 2) (prog_2_method_2_code) (.mk #[])) (cond (Nat.beq m 3) (prog_2_method_3_code) (.mk #[])))) (cond (Nat.blt m 6) (cond (Nat.blt m 5) (cond (Nat.beq m 4) (prog_2_method_4_code) (.mk #[])) (cond (Nat.beq m 5) (prog_2_method_5_code) (.mk #[]))) (cond (Nat.blt m 7) (cond (Nat.beq m 6) (prog_2_method_6_code) (.mk #[])) (cond (Nat.beq m 7) (prog_2_method_7_code) (.mk #[]))))) (cond (Nat.blt m 12) (cond (Nat.blt m 10) (cond (Nat.blt m 9) (cond (Nat.beq m 8) (prog_2_method_8_code) (.mk #[])) (cond (Nat.beq m 9) (prog_2_method_9_code) (.mk #[]))) (cond (Nat.blt m 11) (cond (Nat.beq m 10) (prog_2_method_10_code) (.mk #[])) (cond (Nat.beq m 11) (prog_3_method_1_code) (.mk #[])))) (cond (Nat.blt m 14) (cond (Nat.blt m 13) (cond (Nat.beq m 12) (prog_3_method_2_code) (.mk #[])) (cond (Nat.beq m 13) (prog_3_method_3_code) (.mk #[]))) (cond (Nat.blt m 15) (cond (Nat.beq m 14) (prog_3_method_4_code) (.mk #[])) (cond (Nat.beq m 15) (prog_3_method_5_code) (.mk #[])))))) (cond (Nat.blt m 24) (cond (Nat.blt m 20) (cond (Nat.blt m 18) (cond (Nat.blt m 17) (cond (Nat.beq m 16) (prog_3_method_6_code) (.mk #[])) (cond (Nat.beq m 17) (prog_3_method_7_code) (.mk #[]))) (cond (Nat.blt m 19) (cond (Nat.beq m 18) (prog_4_method_1_code) (.mk #[])) (cond (Nat.beq m 19) (prog_4_method_2_code) (.mk #[])))) (cond (Nat.blt m 22) (cond (Nat.blt m 21) (cond (Nat.beq m 20) (prog_4_method_3_code) (.mk #[])) (cond (Nat.beq m 21) (prog_4_method_4_code) (.mk #[]))) (cond (Nat.blt m 23) (cond (Nat.beq m 22) (prog_4_method_5_code) (.mk #[])) (cond (Nat.beq m 23) (prog_4_method_6_code) (.mk #[]))))) (cond (Nat.blt m 28) (cond (Nat.blt m 26) (cond (Nat.blt m 25) (cond (Nat.beq m 24) (prog_4_method_7_code) (.mk #[])) (cond (Nat.beq m 25) (prog_4_method_8_code) (.mk #[]))) (cond (Nat.blt m 27) (cond (Nat.beq m 26) (prog_4_method_9_code) (.mk #[])) (cond (Nat.beq m 27) (prog_4_method_10_code) (.mk #[])))) (cond (Nat.blt m 30) (cond (Nat.blt m 29) (cond (Nat.beq m 28) (prog_4_method_11_code) (.mk #[])) (cond (Nat.beq m 29) (prog_4_method_12_code) (.mk #[]))) (cond (Nat.blt m 31) (cond (Nat.beq m 30) (prog_4_method_13_code) (.mk #[])) (cond (Nat.blt m 32) (cond (Nat.beq m 31) (prog_4_method_14_code) (.mk #[])) (cond (Nat.beq m 32) (prog_4_method_15_code) (.mk #[])))))))) (cond (Nat.blt m 49) (cond (Nat.blt m 41) (cond (Nat.blt m 37) (cond (Nat.blt m 35) (cond (Nat.blt m 34) (cond (Nat.beq m 33) (prog_4_method_16_code) (.mk #[])) (cond (Nat.beq m 34) (prog_4_method_17_code) (.mk #[]))) (cond (Nat.blt m 36) (cond (Nat.beq m 35) (prog_4_method_18_code) (.mk #[])) (cond (Nat.beq m 36) (prog_4_method_19_code) (.mk #[])))) (cond (Nat.blt m 39) (cond (Nat.blt m 38) (cond (Nat.beq m 37) (prog_4_method_20_code) (.mk #[])) (cond (Nat.beq m 38) (prog_4_method_21_code) (.mk #[]))) (cond (Nat.blt m 40) (cond (Nat.beq m 39) (prog_4_method_22_code) (.mk #[])) (cond (Nat.beq m 40) (prog_4_method_23_code) (.mk #[]))))) (cond (Nat.blt m 45) (cond (Nat.blt m 43) (cond (Nat.blt m 42) (cond (Nat.beq m 41) (prog_4_method_24_code) (.mk #[])) (cond (Nat.beq m 42) (prog_4_method_25_code) (.mk #[]))) (cond (Nat.blt m 44) (cond (Nat.beq m 43) (prog_4_method_26_code) (.mk #[])) (cond (Nat.beq m 44) (prog_4_method_27_code) (.mk #[])))) (cond (Nat.blt m 47) (cond (Nat.blt m 46) (cond (Nat.beq m 45) (prog_4_method_28_code) (.mk #[])) (cond (Nat.beq m 46) (prog_4_method_29_code) (.mk #[]))) (cond (Nat.blt m 48) (cond (Nat.beq m 47) (prog_4_method_30_code) (.mk #[])) (cond (Nat.beq m 48) (prog_4_method_31_code) (.mk #[])))))) (cond (Nat.blt m 57) (cond (Nat.blt m 53) (cond (Nat.blt m 51) (cond (Nat.blt m 50) (cond (Nat.beq m 49) (prog_4_method_32_code) (.mk #[])) (cond (Nat.beq m 50) (prog_4_method_33_code) (.mk #[]))) (cond (Nat.blt m 52) (cond (Nat.beq m 51) (prog_4_method_34_code) (.mk #[])) (cond (Nat.beq m 52) (prog_4_method_35_code) (.mk #[])))) (cond (Nat.blt m 55) (cond (Nat.blt m 54) (cond (Nat.beq m 53) (prog_4_method_36_code) (.mk #[])) (cond (Nat.beq m 54) (prog_4_method_37_code) (.mk #[]))) (cond (Nat.blt m 56) (cond (Nat.beq m 55) (prog_4_method_38_code) (.mk #[])) (cond (Nat.beq m 56) (prog_4_method_39_code) (.mk #[]))))) (cond (Nat.blt m 61) (cond (Nat.blt m 59) (cond (Nat.blt m 58) (cond (Nat.beq m 57) (prog_4_method_40_code) (.mk #[])) (cond (Nat.beq m 58) (prog_4_method_41_code) (.mk #[]))) (cond (Nat.blt m 60) (cond (Nat.beq m 59) (prog_4_method_42_code) (.mk #[])) (cond (Nat.beq m 60) (prog_4_method_43_code) (.mk #[])))) (cond (Nat.blt m 63) (cond (Nat.blt m 62) (cond (Nat.beq m 61) (prog_4_method_44_code) (.mk #[])) (cond (Nat.beq m 62) (prog_4_method_45_code) (.mk #[]))) (cond (Nat.blt m 64) (cond (Nat.beq m 63) (prog_4_method_46_code) (.mk #[])) (cond (Nat.blt m 65) (cond (Nat.beq m 64) (prog_5_method_1_code) (.mk #[])) (cond (Nat.beq m 65) (prog_5_method_2_code) (.mk #[]))))))))) (cond (Nat.blt m 99) (cond (Nat.blt m 82) (cond (Nat.blt m 74) (cond (Nat.blt m 70) (cond (Nat.blt m 68) (cond (Nat.blt m 67) (cond (Nat.beq m 66) (prog_5_method_3_code) (.mk #[])) (cond (Nat.beq m 67) (prog_5_method_4_code) (.mk #[]))) (cond (Nat.blt m 69) (cond (Nat.beq m 68) (prog_6_method_1_code) (.mk #[])) (cond (Nat.beq m 69) (prog_6_method_2_code) (.mk #[])))) (cond (Nat.blt m 72) (cond (Nat.blt m 71) (cond (Nat.beq m 70) (prog_6_method_3_code) (.mk #[])) (cond (Nat.beq m 71) (prog_6_method_4_code) (.mk #[]))) (cond (Nat.blt m 73) (cond (Nat.beq m 72) (prog_6_method_5_code) (.mk #[])) (cond (Nat.beq m 73) (prog_6_method_6_code) (.mk #[]))))) (cond (Nat.blt m 78) (cond (Nat.blt m 76) (cond (Nat.blt m 75) (cond (Nat.beq m 74) (prog_6_method_7_code) (.mk #[])) (cond (Nat.beq m 75) (prog_6_method_8_code) (.mk #[]))) (cond (Nat.blt m 77) (cond (Nat.beq m 76) (prog_6_method_9_code) (.mk #[])) (cond (Nat.beq m 77) (prog_6_method_10_code) (.mk #[])))) (cond (Nat.blt m 80) (cond (Nat.blt m 79) (cond (Nat.beq m 78) (prog_6_method_11_code) (.mk #[])) (cond (Nat.beq m 79) (prog_6_method_12_code) (.mk #[]))) (cond (Nat.blt m 81) (cond (Nat.beq m 80) (prog_6_method_13_code) (.mk #[])) (cond (Nat.beq m 81) (prog_6_method_14_code) (.mk #[])))))) (cond (Nat.blt m 90) (cond (Nat.blt m 86) (cond (Nat.blt m 84) (cond (Nat.blt m 83) (cond (Nat.beq m 82) (prog_6_method_15_code) (.mk #[])) (cond (Nat.beq m 83) (prog_6_method_16_code) (.mk #[]))) (cond (Nat.blt m 85) (cond (Nat.beq m 84) (prog_6_method_17_code) (.mk #[])) (cond (Nat.beq m 85) (prog_7_method_1_code) (.mk #[])))) (cond (Nat.blt m 88) (cond (Nat.blt m 87) (cond (Nat.beq m 86) (prog_7_method_2_code) (.mk #[])) (cond (Nat.beq m 87) (prog_7_method_3_code) (.mk #[]))) (cond (Nat.blt m 89) (cond (Nat.beq m 88) (prog_7_method_4_code) (.mk #[])) (cond (Nat.beq m 89) (prog_7_method_5_code) (.mk #[]))))) (cond (Nat.blt m 94) (cond (Nat.blt m 92) (cond (Nat.blt m 91) (cond (Nat.beq m 90) (prog_7_method_6_code) (.mk #[])) (cond (Nat.beq m 91) (prog_7_method_7_code) (.mk #[]))) (cond (Nat.blt m 93) (cond (Nat.beq m 92) (prog_7_method_8_code) (.mk #[])) (cond (Nat.beq m 93) (prog_7_method_9_code) (.mk #[])))) (cond (Nat.blt m 96) (cond (Nat.blt m 95) (cond (Nat.beq m 94) (prog_7_method_10_code) (.mk #[])) (cond (Nat.beq m 95) (prog_7_method_11_code) (.mk #[]))) (cond (Nat.blt m 97) (cond (Nat.beq m 96) (prog_7_method_12_code) (.mk #[])) (cond (Nat.blt m 98) (cond (Nat.beq m 97) (prog_8_method_2_code) (.mk #[])) (cond (Nat.beq m 98) (prog_8_method_3_code) (.mk #[])))))))) (cond (Nat.blt m 115) (cond (Nat.blt m 107) (cond (Nat.blt m 103) (cond (Nat.blt m 101) (cond (Nat.blt m 100) (cond (Nat.beq m 99) (prog_8_method_4_code) (.mk #[])) (cond (Nat.beq m 100) (prog_9_method_1_code) (.mk #[]))) (cond (Nat.blt m 102) (cond (Nat.beq m 101) (prog_9_method_2_code) (.mk #[])) (cond (Nat.beq m 102) (prog_9_method_3_code) (.mk #[])))) (cond (Nat.blt m 105) (cond (Nat.blt m 104) (cond (Nat.beq m 103) (prog_9_method_4_code) (.mk #[])) (cond (Nat.beq m 104) (prog_9_method_5_code) (.mk #[]))) (cond (Nat.blt m 106) (cond (Nat.beq m 105) (prog_9_method_6_code) (.mk #[])) (cond (Nat.beq m 106) (prog_9_method_7_code) (.mk #[]))))) (cond (Nat.blt m 111) (cond (Nat.blt m 109) (cond (Nat.blt m 108) (cond (Nat.beq m 107) (prog_9_method_8_code) (.mk #[])) (cond (Nat.beq m 108) (prog_9_method_9_code) (.mk #[]))) (cond (Nat.blt m 110) (cond (Nat.beq m 109) (prog_1_method_1_code) (.mk #[])) (cond (Nat.beq m 110) (prog_1_method_2_code) (.mk #[])))) (cond (Nat.blt m 113) (cond (Nat.blt m 112) (cond (Nat.beq m 111) (prog_1_method_3_code) (.mk #[])) (cond (Nat.beq m 112) (prog_1_method_4_code) (.mk #[]))) (cond (Nat.blt m 114) (cond (Nat.beq m 113) (prog_1_method_5_code) (.mk #[])) (cond (Nat.beq m 114) (prog_1_method_6_code) (.mk #[])))))) (cond (Nat.blt m 123) (cond (Nat.blt m 119) (cond (Nat.blt m 117) (cond (Nat.blt m 116) (cond (Nat.beq m 115) (prog_1_method_7_code) (.mk #[])) (cond (Nat.beq m 116) (prog_1_method_8_code) (.mk #[]))) (cond (Nat.blt m 118) (cond (Nat.beq m 117) (prog_1_method_9_code) (.mk #[])) (cond (Nat.beq m 118) (prog_1_method_10_code) (.mk #[])))) (cond (Nat.blt m 121) (cond (Nat.blt m 120) (cond (Nat.beq m 119) (prog_1_method_11_code) (.mk #[])) (cond (Nat.beq m 120) (prog_1_method_12_code) (.mk #[]))) (cond (Nat.blt m 122) (cond (Nat.beq m 121) (prog_1_method_13_code) (.mk #[])) (cond (Nat.beq m 122) (prog_1_method_14_code) (.mk #[]))))) (cond (Nat.blt m 127) (cond (Nat.blt m 125) (cond (Nat.blt m 124) (cond (Nat.beq m 123) (prog_1_method_15_code) (.mk #[])) (cond (Nat.beq m 124) (prog_1_method_16_code) (.mk #[]))) (cond (Nat.blt m 126) (cond (Nat.beq m 125) (prog_1_method_17_code) (.mk #[])) (cond (Nat.beq m 126) (prog_1_method_18_code) (.mk #[])))) (cond (Nat.blt m 129) (cond (Nat.blt m 128) (cond (Nat.beq m 127) (prog_1_method_19_code) (.mk #[])) (cond (Nat.beq m 128) (prog_1_method_20_code) (.mk #[]))) (cond (Nat.blt m 130) (cond (Nat.beq m 129) (prog_1_method_21_code) (.mk #[])) (cond (Nat.blt m 131) (cond (Nat.beq m 130) (prog_1_method_22_code) (.mk #[])) (cond (Nat.beq m 131) (prog_1_method_23_code) (.mk #[])))))))))) (cond (Nat.blt m 198) (cond (Nat.blt m 165) (cond (Nat.blt m 148) (cond (Nat.blt m 140) (cond (Nat.blt m 136) (cond (Nat.blt m 134) (cond (Nat.blt m 133) (cond (Nat.beq m 132) (prog_1_method_24_code) (.mk #[])) (cond (Nat.beq m 133) (prog_1_method_25_code) (.mk #[]))) (cond (Nat.blt m 135) (cond (Nat.beq m 134) (prog_1_method_26_code) (.mk #[])) (cond (Nat.beq m 135) (prog_1_method_27_code) (.mk #[])))) (cond (Nat.blt m 138) (cond (Nat.blt m 137) (cond (Nat.beq m 136) (prog_1_method_28_code) (.mk #[])) (cond (Nat.beq m 137) (prog_1_method_29_code) (.mk #[]))) (cond (Nat.blt m 139) (cond (Nat.beq m 138) (prog_1_method_30_code) (.mk #[])) (cond (Nat.beq m 139) (prog_1_method_31_code) (.mk #[]))))) (cond (Nat.blt m 144) (cond (Nat.blt m 142) (cond (Nat.blt m 141) (cond (Nat.beq m 140) (prog_1_method_32_code) (.mk #[])) (cond (Nat.beq m 141) (prog_1_method_33_code) (.mk #[]))) (cond (Nat.blt m 143) (cond (Nat.beq m 142) (prog_1_method_34_code) (.mk #[])) (cond (Nat.beq m 143) (prog_1_method_35_code) (.mk #[])))) (cond (Nat.blt m 146) (cond (Nat.blt m 145) (cond (Nat.beq m 144) (prog_1_method_36_code) (.mk #[])) (cond (Nat.beq m 145) (prog_1_method_37_code) (.mk #[]))) (cond (Nat.blt m 147) (cond (Nat.beq m 146) (prog_1_method_38_code) (.mk #[])) (cond (Nat.beq m 147) (prog_1_method_39_code) (.mk #[])))))) (cond (Nat.blt m 156) (cond (Nat.blt m 152) (cond (Nat.blt m 150) (cond (Nat.blt m 149) (cond (Nat.beq m 148) (prog_1_method_40_code) (.mk #[])) (cond (Nat.beq m 149) (prog_1_method_41_code) (.mk #[]))) (cond (Nat.blt m 151) (cond (Nat.beq m 150) (prog_1_method_42_code) (.mk #[])) (cond (Nat.beq m 151) (prog_1_method_43_code) (.mk #[])))) (cond (Nat.blt m 154) (cond (Nat.blt m 153) (cond (Nat.beq m 152) (prog_11_method_1_code) (.mk #[])) (cond (Nat.beq m 153) (prog_11_method_2_code) (.mk #[]))) (cond (Nat.blt m 155) (cond (Nat.beq m 154) (prog_11_method_3_code) (.mk #[])) (cond (Nat.beq m 155) (prog_11_method_4_code) (.mk #[]))))) (cond (Nat.blt m 160) (cond (Nat.blt m 158) (cond (Nat.blt m 157) (cond (Nat.beq m 156) (prog_11_method_5_code) (.mk #[])) (cond (Nat.beq m 157) (prog_11_method_6_code) (.mk #[]))) (cond (Nat.blt m 159) (cond (Nat.beq m 158) (prog_11_method_7_code) (.mk #[])) (cond (Nat.beq m 159) (prog_11_method_8_code) (.mk #[])))) (cond (Nat.blt m 162) (cond (Nat.blt m 161) (cond (Nat.beq m 160) (prog_11_method_9_code) (.mk #[])) (cond (Nat.beq m 161) (prog_11_method_10_code) (.mk #[]))) (cond (Nat.blt m 163) (cond (Nat.beq m 162) (prog_11_method_11_code) (.mk #[])) (cond (Nat.blt m 164) (cond (Nat.beq m 163) (prog_11_method_12_code) (.mk #[])) (cond (Nat.beq m 164) (prog_11_method_13_code) (.mk #[])))))))) (cond (Nat.blt m 181) (cond (Nat.blt m 173) (cond (Nat.blt m 169) (cond (Nat.blt m 167) (cond (Nat.blt m 166) (cond (Nat.beq m 165) (prog_11_method_14_code) (.mk #[])) (cond (Nat.beq m 166) (prog_11_method_15_code) (.mk #[]))) (cond (Nat.blt m 168) (cond (Nat.beq m 167) (prog_11_method_16_code) (.mk #[])) (cond (Nat.beq m 168) (prog_11_method_17_code) (.mk #[])))) (cond (Nat.blt m 171) (cond (Nat.blt m 170) (cond (Nat.beq m 169) (prog_11_method_18_code) (.mk #[])) (cond (Nat.beq m 170) (prog_11_method_19_code) (.mk #[]))) (cond (Nat.blt m 172) (cond (Nat.beq m 171) (prog_11_method_20_code) (.mk #[])) (cond (Nat.beq m 172) (prog_11_method_21_code) (.mk #[]))))) (cond (Nat.blt m 177) (cond (Nat.blt m 175) (cond (Nat.blt m 174) (cond (Nat.beq m 173) (prog_11_method_22_code) (.mk #[])) (cond (Nat.beq m 174) (prog_11_method_23_code) (.mk #[]))) (cond (Nat.blt m 176) (cond (Nat.beq m 175) (prog_11_method_24_code) (.mk #[])) (cond (Nat.beq m 176) (prog_11_method_25_code) (.mk #[])))) (cond (Nat.blt m 179) (cond (Nat.blt m 178) (cond (Nat.beq m 177) (prog_11_method_26_code) (.mk #[])) (cond (Nat.beq m 178) (prog_11_method_27_code) (.mk #[]))) (cond (Nat.blt m 180) (cond (Nat.beq m 179) (prog_11_method_28_code) (.mk #[])) (cond (Nat.beq m 180) (prog_11_method_29_code) (.mk #[])))))) (cond (Nat.blt m 189) (cond (Nat.blt m 185) (cond (Nat.blt m 183) (cond (Nat.blt m 182) (cond (Nat.beq m 181) (prog_11_method_30_code) (.mk #[])) (cond (Nat.beq m 182) (prog_11_method_31_code) (.mk #[]))) (cond (Nat.blt m 184) (cond (Nat.beq m 183) (prog_11_method_32_code) (.mk #[])) (cond (Nat.beq m 184) (prog_11_method_33_code) (.mk #[])))) (cond (Nat.blt m 187) (cond (Nat.blt m 186) (cond (Nat.beq m 185) (prog_11_method_34_code) (.mk #[])) (cond (Nat.beq m 186) (prog_11_method_35_code) (.mk #[]))) (cond (Nat.blt m 188) (cond (Nat.beq m 187) (prog_11_method_36_code) (.mk #[])) (cond (Nat.beq m 188) (prog_11_method_37_code) (.mk #[]))))) (cond (Nat.blt m 193) (cond (Nat.blt m 191) (cond (Nat.blt m 190) (cond (Nat.beq m 189) (prog_11_method_38_code) (.mk #[])) (cond (Nat.beq m 190) (prog_11_method_39_code) (.mk #[]))) (cond (Nat.blt m 192) (cond (Nat.beq m 191) (prog_11_method_40_code) (.mk #[])) (cond (Nat.beq m 192) (prog_11_method_41_code) (.mk #[])))) (cond (Nat.blt m 195) (cond (Nat.blt m 194) (cond (Nat.beq m 193) (prog_11_method_42_code) (.mk #[])) (cond (Nat.beq m 194) (prog_11_method_43_code) (.mk #[]))) (cond (Nat.blt m 196) (cond (Nat.beq m 195) (prog_11_method_44_code) (.mk #[])) (cond (Nat.blt m 197) (cond (Nat.beq m 196) (prog_11_method_45_code) (.mk #[])) (cond (Nat.beq m 197) (prog_11_method_46_code) (.mk #[]))))))))) (cond (Nat.blt m 231) (cond (Nat.blt m 214) (cond (Nat.blt m 206) (cond (Nat.blt m 202) (cond (Nat.blt m 200) (cond (Nat.blt m 199) (cond (Nat.beq m 198) (prog_11_method_47_code) (.mk #[])) (cond (Nat.beq m 199) (prog_11_method_48_code) (.mk #[]))) (cond (Nat.blt m 201) (cond (Nat.beq m 200) (prog_11_method_49_code) (.mk #[])) (cond (Nat.beq m 201) (prog_11_method_50_code) (.mk #[])))) (cond (Nat.blt m 204) (cond (Nat.blt m 203) (cond (Nat.beq m 202) (prog_11_method_51_code) (.mk #[])) (cond (Nat.beq m 203) (prog_11_method_52_code) (.mk #[]))) (cond (Nat.blt m 205) (cond (Nat.beq m 204) (prog_11_method_53_code) (.mk #[])) (cond (Nat.beq m 205) (prog_11_method_54_code) (.mk #[]))))) (cond (Nat.blt m 210) (cond (Nat.blt m 208) (cond (Nat.blt m 207) (cond (Nat.beq m 206) (prog_11_method_55_code) (.mk #[])) (cond (Nat.beq m 207) (prog_11_method_56_code) (.mk #[]))) (cond (Nat.blt m 209) (cond (Nat.beq m 208) (prog_11_method_57_code) (.mk #[])) (cond (Nat.beq m 209) (prog_11_method_58_code) (.mk #[])))) (cond (Nat.blt m 212) (cond (Nat.blt m 211) (cond (Nat.beq m 210) (prog_11_method_59_code) (.mk #[])) (cond (Nat.beq m 211) (prog_11_method_60_code) (.mk #[]))) (cond (Nat.blt m 213) (cond (Nat.beq m 212) (prog_11_method_61_code) (.mk #[])) (cond (Nat.beq m 213) (prog_11_method_62_code) (.mk #[])))))) (cond (Nat.blt m 222) (cond (Nat.blt m 218) (cond (Nat.blt m 216) (cond (Nat.blt m 215) (cond (Nat.beq m 214) (prog_11_method_63_code) (.mk #[])) (cond (Nat.beq m 215) (prog_11_method_64_code) (.mk #[]))) (cond (Nat.blt m 217) (cond (Nat.beq m 216) (prog_11_method_65_code) (.mk #[])) (cond (Nat.beq m 217) (prog_11_method_66_code) (.mk #[])))) (cond (Nat.blt m 220) (cond (Nat.blt m 219) (cond (Nat.beq m 218) (prog_11_method_67_code) (.mk #[])) (cond (Nat.beq m 219) (prog_11_method_68_code) (.mk #[]))) (cond (Nat.blt m 221) (cond (Nat.beq m 220) (prog_11_method_69_code) (.mk #[])) (cond (Nat.beq m 221) (prog_11_method_70_code) (.mk #[]))))) (cond (Nat.blt m 226) (cond (Nat.blt m 224) (cond (Nat.blt m 223) (cond (Nat.beq m 222) (prog_11_method_71_code) (.mk #[])) (cond (Nat.beq m 223) (prog_11_method_72_code) (.mk #[]))) (cond (Nat.blt m 225) (cond (Nat.beq m 224) (prog_11_method_73_code) (.mk #[])) (cond (Nat.beq m 225) (prog_11_method_74_code) (.mk #[])))) (cond (Nat.blt m 228) (cond (Nat.blt m 227) (cond (Nat.beq m 226) (prog_11_method_75_code) (.mk #[])) (cond (Nat.beq m 227) (prog_11_method_76_code) (.mk #[]))) (cond (Nat.blt m 229) (cond (Nat.beq m 228) (prog_11_method_77_code) (.mk #[])) (cond (Nat.blt m 230) (cond (Nat.beq m 229) (prog_11_method_78_code) (.mk #[])) (cond (Nat.beq m 230) (prog_11_method_79_code) (.mk #[])))))))) (cond (Nat.blt m 247) (cond (Nat.blt m 239) (cond (Nat.blt m 235) (cond (Nat.blt m 233) (cond (Nat.blt m 232) (cond (Nat.beq m 231) (prog_11_method_80_code) (.mk #[])) (cond (Nat.beq m 232) (prog_11_method_81_code) (.mk #[]))) (cond (Nat.blt m 234) (cond (Nat.beq m 233) (prog_11_method_82_code) (.mk #[])) (cond (Nat.beq m 234) (prog_11_method_83_code) (.mk #[])))) (cond (Nat.blt m 237) (cond (Nat.blt m 236) (cond (Nat.beq m 235) (prog_11_method_84_code) (.mk #[])) (cond (Nat.beq m 236) (prog_11_method_85_code) (.mk #[]))) (cond (Nat.blt m 238) (cond (Nat.beq m 237) (prog_11_method_86_code) (.mk #[])) (cond (Nat.beq m 238) (prog_11_method_87_code) (.mk #[]))))) (cond (Nat.blt m 243) (cond (Nat.blt m 241) (cond (Nat.blt m 240) (cond (Nat.beq m 239) (prog_11_method_88_code) (.mk #[])) (cond (Nat.beq m 240) (prog_11_method_89_code) (.mk #[]))) (cond (Nat.blt m 242) (cond (Nat.beq m 241) (prog_11_method_90_code) (.mk #[])) (cond (Nat.beq m 242) (prog_11_method_91_code) (.mk #[])))) (cond (Nat.blt m 245) (cond (Nat.blt m 244) (cond (Nat.beq m 243) (prog_11_method_92_code) (.mk #[])) (cond (Nat.beq m 244) (prog_11_method_93_code) (.mk #[]))) (cond (Nat.blt m 246) (cond (Nat.beq m 245) (prog_11_method_94_code) (.mk #[])) (cond (Nat.beq m 246) (prog_11_method_95_code) (.mk #[])))))) (cond (Nat.blt m 255) (cond (Nat.blt m 251) (cond (Nat.blt m 249) (cond (Nat.blt m 248) (cond (Nat.beq m 247) (prog_11_method_96_code) (.mk #[])) (cond (Nat.beq m 248) (prog_11_method_97_code) (.mk #[]))) (cond (Nat.blt m 250) (cond (Nat.beq m 249) (prog_11_method_98_code) (.mk #[])) (cond (Nat.beq m 250) (prog_11_method_99_code) (.mk #[])))) (cond (Nat.blt m 253) (cond (Nat.blt m 252) (cond (Nat.beq m 251) (prog_11_method_100_code) (.mk #[])) (cond (Nat.beq m 252) (prog_11_method_101_code) (.mk #[]))) (cond (Nat.blt m 254) (cond (Nat.beq m 253) (prog_11_method_102_code) (.mk #[])) (cond (Nat.beq m 254) (prog_11_method_103_code) (.mk #[]))))) (cond (Nat.blt m 259) (cond (Nat.blt m 257) (cond (Nat.blt m 256) (cond (Nat.beq m 255) (prog_11_method_104_code) (.mk #[])) (cond (Nat.beq m 256) (prog_11_method_105_code) (.mk #[]))) (cond (Nat.blt m 258) (cond (Nat.beq m 257) (prog_11_method_106_code) (.mk #[])) (cond (Nat.beq m 258) (prog_11_method_107_code) (.mk #[])))) (cond (Nat.blt m 261) (cond (Nat.blt m 260) (cond (Nat.beq m 259) (prog_11_method_108_code) (.mk #[])) (cond (Nat.beq m 260) (prog_11_method_109_code) (.mk #[]))) (cond (Nat.blt m 262) (cond (Nat.beq m 261) (prog_11_method_110_code) (.mk #[])) (cond (Nat.blt m 263) (cond (Nat.beq m 262) (prog_11_method_111_code) (.mk #[])) (cond (Nat.beq m 263) (prog_17_method_103_code) (.mk #[]))))))))))
def mRetT (m : Nat) : Option Jvm.ClassFile.FieldType := cond (Nat.blt m 132) (cond (Nat.blt m 66) (cond (Nat.blt m 33) (cond (Nat.blt m 16) (cond (Nat.blt m 8) (cond (Nat.blt m 4) (cond (Nat.blt m 2) (cond (Nat.blt m 1) (cond (Nat.beq m 0) (some .boolean) (none)) (cond (Nat.beq m 1) (none) (none))) (cond (Nat.blt m 3) (cond (Nat.beq m 2) (none) (none)) (cond (Nat.beq m 3) (none) (none)))) (cond (Nat.blt m 6) (cond (Nat.blt m 5) (cond (Nat.beq m 4) (some .boolean) (none)) (cond (Nat.beq m 5) (some .boolean) (none))) (cond (Nat.blt m 7) (cond (Nat.beq m 6) (some .boolean) (none)) (cond (Nat.beq m 7) (none) (none))))) (cond (Nat.blt m 12) (cond (Nat.blt m 10) (cond (Nat.blt m 9) (cond (Nat.beq m 8) (none) (none)) (cond (Nat.beq m 9) (some .int) (none))) (cond (Nat.blt m 11) (cond (Nat.beq m 10) (some .int) (none)) (cond (Nat.beq m 11) (none) (none)))) (cond (Nat.blt m 14) (cond (Nat.blt m 13) (cond (Nat.beq m 12) (some .int) (none)) (cond (Nat.beq m 13) (some .int) (none))) (cond (Nat.blt m 15) (cond (Nat.beq m 14) (none) (none)) (cond (Nat.beq m 15) (none) (none)))))) (cond (Nat.blt m 24) (cond (Nat.blt m 20) (cond (Nat.blt m 18) (cond (Nat.blt m 17) (cond (Nat.beq m 16) (none) (none)) (cond (Nat.beq m 17) (some .int) (none))) (cond (Nat.blt m 19) (cond (Nat.beq m 18) (none) (none)) (cond (Nat.beq m 19) (some .int) (none)))) (cond (Nat.blt m 22) (cond (Nat.blt m 21) (cond (Nat.beq m 20) (none) (none)) (cond (Nat.beq m 21) (some .int) (none))) (cond (Nat.blt m 23) (cond (Nat.beq m 22) (none) (none)) (cond (Nat.beq m 23) (none) (none))))) (cond (Nat.blt m 28) (cond (Nat.blt m 26) (cond (Nat.blt m 25) (cond (Nat.beq m 24) (none) (none)) (cond (Nat.beq m 25) (none) (none))) (cond (Nat.blt m 27) (cond (Nat.beq m 26) (some .boolean) (none)) (cond (Nat.beq m 27) (some .boolean) (none)))) (cond (Nat.blt m 30) (cond (Nat.blt m 29) (cond (Nat.beq m 28) (none) (none)) (cond (Nat.beq m 29) (some .boolean) (none))) (cond (Nat.blt m 31) (cond (Nat.beq m 30) (some .int) (none)) (cond (Nat.blt m 32) (cond (Nat.beq m 31) (some .int) (none)) (cond (Nat.beq m 32) (none) (none)))))))) (cond (Nat.blt m 49) (cond (Nat.blt m 41) (cond (Nat.blt m 37) (cond (Nat.blt m 35) (cond (Nat.blt m 34) (cond (Nat.beq m 33) (none) (none)) (cond (Nat.beq m 34) (some .int) (none))) (cond (Nat.blt m 36) (cond (Nat.beq m 35) (none) (none)) (cond (Nat.beq m 36) (some .int) (none)))) (cond (Nat.blt m 39) (cond (Nat.blt m 38) (cond (Nat.beq m 37) (none) (none)) (cond (Nat.beq m 38) (none) (none))) (cond (Nat.blt m 40) (cond (Nat.beq m 39) (none) (none)) (cond (Nat.beq m 40) (some .boolean) (none))))) (cond (Nat.blt m 45) (cond (Nat.blt m 43) (cond (Nat.blt m 42) (cond (Nat.beq m 41) (some .int) (none)) (cond (Nat.beq m 42) (some .int) (none))) (cond (Nat.blt m 44) (cond (Nat.beq m 43) (some .boolean) (none)) (cond (Nat.beq m 44) (some .int) (none)))) (cond (Nat.blt m 47) (cond (Nat.blt m 46) (cond (Nat.beq m 45) (some .boolean) (none)) (cond (Nat.beq m 46) (some .boolean) (none))) (cond (Nat.blt m 48) (cond (Nat.beq m 47) (some .int) (none)) (cond (Nat.beq m 48) (some .int) (none)))))) (cond (Nat.blt m 57) (cond (Nat.blt m 53) (cond (Nat.blt m 51) (cond (Nat.blt m 50) (cond (Nat.beq m 49) (some .int) (none)) (cond (Nat.beq m 50) (some .int) (none))) (cond (Nat.blt m 52) (cond (Nat.beq m 51) (none) (none)) (cond (Nat.beq m 52) (some .int) (none)))) (cond (Nat.blt m 55) (cond (Nat.blt m 54) (cond (Nat.beq m 53) (none) (none)) (cond (Nat.beq m 54) (some .int) (none))) (cond (Nat.blt m 56) (cond (Nat.beq m 55) (none) (none)) (cond (Nat.beq m 56) (none) (none))))) (cond (Nat.blt m 61) (cond (Nat.blt m 59) (cond (Nat.blt m 58) (cond (Nat.beq m 57) (none) (none)) (cond (Nat.beq m 58) (some .int) (none))) (cond (Nat.blt m 60) (cond (Nat.beq m 59) (none) (none)) (cond (Nat.beq m 60) (some .int) (none)))) (cond (Nat.blt m 63) (cond (Nat.blt m 62) (cond (Nat.beq m 61) (some .int) (none)) (cond (Nat.beq m 62) (none) (none))) (cond (Nat.blt m 64) (cond (Nat.beq m 63) (some .int) (none)) (cond (Nat.blt m 65) (cond (Nat.beq m 64) (none) (none)) (cond (Nat.beq m 65) (none) (none))))))))) (cond (Nat.blt m 99) (cond (Nat.blt m 82) (cond (Nat.blt m 74) (cond (Nat.blt m 70) (cond (Nat.blt m 68) (cond (Nat.blt m 67) (cond (Nat.beq m 66) (some .int) (none)) (cond (Nat.beq m 67) (none) (none))) (cond (Nat.blt m 69) (cond (Nat.beq m 68) (none) (none)) (cond (Nat.beq m 69) (some .int) (none)))) (cond (Nat.blt m 72) (cond (Nat.blt m 71) (cond (Nat.beq m 70) (some .boolean) (none)) (cond (Nat.beq m 71) (some .boolean) (none))) (cond (Nat.blt m 73) (cond (Nat.beq m 72) (some .boolean) (none)) (cond (Nat.beq m 73) (some .int) (none))))) (cond (Nat.blt m 78) (cond (Nat.blt m 76) (cond (Nat.blt m 75) (cond (Nat.beq m 74) (some .int) (none)) (cond (Nat.beq m 75) (some .boolean) (none))) (cond (Nat.blt m 77) (cond (Nat.beq m 76) (some .boolean) (none)) (cond (Nat.beq m 77) (some .boolean) (none)))) (cond (Nat.blt m 80) (cond (Nat.blt m 79) (cond (Nat.beq m 78) (some .boolean) (none)) (cond (Nat.beq m 79) (some .boolean) (none))) (cond (Nat.blt m 81) (cond (Nat.beq m 80) (none) (none)) (cond (Nat.beq m 81) (some .int) (none)))))) (cond (Nat.blt m 90) (cond (Nat.blt m 86) (cond (Nat.blt m 84) (cond (Nat.blt m 83) (cond (Nat.beq m 82) (some .boolean) (none)) (cond (Nat.beq m 83) (some .boolean) (none))) (cond (Nat.blt m 85) (cond (Nat.beq m 84) (some .boolean) (none)) (cond (Nat.beq m 85) (none) (none)))) (cond (Nat.blt m 88) (cond (Nat.blt m 87) (cond (Nat.beq m 86) (some .int) (none)) (cond (Nat.beq m 87) (some .int) (none))) (cond (Nat.blt m 89) (cond (Nat.beq m 88) (some .boolean) (none)) (cond (Nat.beq m 89) (some .int) (none))))) (cond (Nat.blt m 94) (cond (Nat.blt m 92) (cond (Nat.blt m 91) (cond (Nat.beq m 90) (none) (none)) (cond (Nat.beq m 91) (some .int) (none))) (cond (Nat.blt m 93) (cond (Nat.beq m 92) (some .int) (none)) (cond (Nat.beq m 93) (some .int) (none)))) (cond (Nat.blt m 96) (cond (Nat.blt m 95) (cond (Nat.beq m 94) (some .long) (none)) (cond (Nat.beq m 95) (none) (none))) (cond (Nat.blt m 97) (cond (Nat.beq m 96) (some .int) (none)) (cond (Nat.blt m 98) (cond (Nat.beq m 97) (some .int) (none)) (cond (Nat.beq m 98) (none) (none)))))))) (cond (Nat.blt m 115) (cond (Nat.blt m 107) (cond (Nat.blt m 103) (cond (Nat.blt m 101) (cond (Nat.blt m 100) (cond (Nat.beq m 99) (none) (none)) (cond (Nat.beq m 100) (none) (none))) (cond (Nat.blt m 102) (cond (Nat.beq m 101) (some .int) (none)) (cond (Nat.beq m 102) (some .int) (none)))) (cond (Nat.blt m 105) (cond (Nat.blt m 104) (cond (Nat.beq m 103) (some .int) (none)) (cond (Nat.beq m 104) (some .int) (none))) (cond (Nat.blt m 106) (cond (Nat.beq m 105) (some .int) (none)) (cond (Nat.beq m 106) (some .int) (none))))) (cond (Nat.blt m 111) (cond (Nat.blt m 109) (cond (Nat.blt m 108) (cond (Nat.beq m 107) (some .int) (none)) (cond (Nat.beq m 108) (some .int) (none))) (cond (Nat.blt m 110) (cond (Nat.beq m 109) (none) (none)) (cond (Nat.beq m 110) (some .int) (none)))) (cond (Nat.blt m 113) (cond (Nat.blt m 112) (cond (Nat.beq m 111) (none) (none)) (cond (Nat.beq m 112) (some .int) (none))) (cond (Nat.blt m 114) (cond (Nat.beq m 113) (some .int) (none)) (cond (Nat.beq m 114) (some .int) (none)))))) (cond (Nat.blt m 123) (cond (Nat.blt m 119) (cond (Nat.blt m 117) (cond (Nat.blt m 116) (cond (Nat.beq m 115) (some .boolean) (none)) (cond (Nat.beq m 116) (some .int) (none))) (cond (Nat.blt m 118) (cond (Nat.beq m 117) (some .int) (none)) (cond (Nat.beq m 118) (some .int) (none)))) (cond (Nat.blt m 121) (cond (Nat.blt m 120) (cond (Nat.beq m 119) (some .int) (none)) (cond (Nat.beq m 120) (some .int) (none))) (cond (Nat.blt m 122) (cond (Nat.beq m 121) (some .int) (none)) (cond (Nat.beq m 122) (some .int) (none))))) (cond (Nat.blt m 127) (cond (Nat.blt m 125) (cond (Nat.blt m 124) (cond (Nat.beq m 123) (some .int) (none)) (cond (Nat.beq m 124) (some .int) (none))) (cond (Nat.blt m 126) (cond (Nat.beq m 125) (some .boolean) (none)) (cond (Nat.beq m 126) (some .int) (none)))) (cond (Nat.blt m 129) (cond (Nat.blt m 128) (cond (Nat.beq m 127) (some .int) (none)) (cond (Nat.beq m 128) (some .int) (none))) (cond (Nat.blt m 130) (cond (Nat.beq m 129) (some .int) (none)) (cond (Nat.blt m 131) (cond (Nat.beq m 130) (some .int) (none)) (cond (Nat.beq m 131) (some .int) (none)))))))))) (cond (Nat.blt m 198) (cond (Nat.blt m 165) (cond (Nat.blt m 148) (cond (Nat.blt m 140) (cond (Nat.blt m 136) (cond (Nat.blt m 134) (cond (Nat.blt m 133) (cond (Nat.beq m 132) (some .int) (none)) (cond (Nat.beq m 133) (some .int) (none))) (cond (Nat.blt m 135) (cond (Nat.beq m 134) (some .int) (none)) (cond (Nat.beq m 135) (some .int) (none)))) (cond (Nat.blt m 138) (cond (Nat.blt m 137) (cond (Nat.beq m 136) (some .int) (none)) (cond (Nat.beq m 137) (some .int) (none))) (cond (Nat.blt m 139) (cond (Nat.beq m 138) (some .int) (none)) (cond (Nat.beq m 139) (some .int) (none))))) (cond (Nat.blt m 144) (cond (Nat.blt m 142) (cond (Nat.blt m 141) (cond (Nat.beq m 140) (some .int) (none)) (cond (Nat.beq m 141) (some .int) (none))) (cond (Nat.blt m 143) (cond (Nat.beq m 142) (some .int) (none)) (cond (Nat.beq m 143) (some .int) (none)))) (cond (Nat.blt m 146) (cond (Nat.blt m 145) (cond (Nat.beq m 144) (some .int) (none)) (cond (Nat.beq m 145) (some .int) (none))) (cond (Nat.blt m 147) (cond (Nat.beq m 146) (some .int) (none)) (cond (Nat.beq m 147) (some .int) (none)))))) (cond (Nat.blt m 156) (cond (Nat.blt m 152) (cond (Nat.blt m 150) (cond (Nat.blt m 149) (cond (Nat.beq m 148) (some .int) (none)) (cond (Nat.beq m 149) (some .boolean) (none))) (cond (Nat.blt m 151) (cond (Nat.beq m 150) (some .boolean) (none)) (cond (Nat.beq m 151) (some .boolean) (none)))) (cond (Nat.blt m 154) (cond (Nat.blt m 153) (cond (Nat.beq m 152) (none) (none)) (cond (Nat.beq m 153) (some .boolean) (none))) (cond (Nat.blt m 155) (cond (Nat.beq m 154) (some .int) (none)) (cond (Nat.beq m 155) (some .int) (none))))) (cond (Nat.blt m 160) (cond (Nat.blt m 158) (cond (Nat.blt m 157) (cond (Nat.beq m 156) (none) (none)) (cond (Nat.beq m 157) (some .int) (none))) (cond (Nat.blt m 159) (cond (Nat.beq m 158) (none) (none)) (cond (Nat.beq m 159) (some .boolean) (none)))) (cond (Nat.blt m 162) (cond (Nat.blt m 161) (cond (Nat.beq m 160) (some .int) (none)) (cond (Nat.beq m 161) (some .int) (none))) (cond (Nat.blt m 163) (cond (Nat.beq m 162) (some (Jvm.ClassFile.FieldType.object "java/lang/String")) (none)) (cond (Nat.blt m 164) (cond (Nat.beq m 163) (some .int) (none)) (cond (Nat.beq m 164) (some .boolean) (none)))))))) (cond (Nat.blt m 181) (cond (Nat.blt m 173) (cond (Nat.blt m 169) (cond (Nat.blt m 167) (cond (Nat.blt m 166) (cond (Nat.beq m 165) (some .boolean) (none)) (cond (Nat.beq m 166) (some .boolean) (none))) (cond (Nat.blt m 168) (cond (Nat.beq m 167) (some .int) (none)) (cond (Nat.beq m 168) (none) (none)))) (cond (Nat.blt m 171) (cond (Nat.blt m 170) (cond (Nat.beq m 169) (some .int) (none)) (cond (Nat.beq m 170) (some .int) (none))) (cond (Nat.blt m 172) (cond (Nat.beq m 171) (none) (none)) (cond (Nat.beq m 172) (none) (none))))) (cond (Nat.blt m 177) (cond (Nat.blt m 175) (cond (Nat.blt m 174) (cond (Nat.beq m 173) (none) (none)) (cond (Nat.beq m 174) (none) (none))) (cond (Nat.blt m 176) (cond (Nat.beq m 175) (none) (none)) (cond (Nat.beq m 176) (some .int) (none)))) (cond (Nat.blt m 179) (cond (Nat.blt m 178) (cond (Nat.beq m 177) (none) (none)) (cond (Nat.beq m 178) (some .boolean) (none))) (cond (Nat.blt m 180) (cond (Nat.beq m 179) (some .int) (none)) (cond (Nat.beq m 180) (none) (none)))))) (cond (Nat.blt m 189) (cond (Nat.blt m 185) (cond (Nat.blt m 183) (cond (Nat.blt m 182) (cond (Nat.beq m 181) (none) (none)) (cond (Nat.beq m 182) (none) (none))) (cond (Nat.blt m 184) (cond (Nat.beq m 183) (some .int) (none)) (cond (Nat.beq m 184) (some .boolean) (none)))) (cond (Nat.blt m 187) (cond (Nat.blt m 186) (cond (Nat.beq m 185) (some .boolean) (none)) (cond (Nat.beq m 186) (none) (none))) (cond (Nat.blt m 188) (cond (Nat.beq m 187) (some .boolean) (none)) (cond (Nat.beq m 188) (none) (none))))) (cond (Nat.blt m 193) (cond (Nat.blt m 191) (cond (Nat.blt m 190) (cond (Nat.beq m 189) (some .int) (none)) (cond (Nat.beq m 190) (some .int) (none))) (cond (Nat.blt m 192) (cond (Nat.beq m 191) (some .boolean) (none)) (cond (Nat.beq m 192) (some .int) (none)))) (cond (Nat.blt m 195) (cond (Nat.blt m 194) (cond (Nat.beq m 193) (none) (none)) (cond (Nat.beq m 194) (none) (none))) (cond (Nat.blt m 196) (cond (Nat.beq m 195) (none) (none)) (cond (Nat.blt m 197) (cond (Nat.beq m 196) (none) (none)) (cond (Nat.beq m 197) (some .boolean) (none))))))))) (cond (Nat.blt m 231) (cond (Nat.blt m 214) (cond (Nat.blt m 206) (cond (Nat.blt m 202) (cond (Nat.blt m 200) (cond (Nat.blt m 199) (cond (Nat.beq m 198) (some .boolean) (none)) (cond (Nat.beq m 199) (some .int) (none))) (cond (Nat.blt m 201) (cond (Nat.beq m 200) (some .int) (none)) (cond (Nat.beq m 201) (some .int) (none)))) (cond (Nat.blt m 204) (cond (Nat.blt m 203) (cond (Nat.beq m 202) (none) (none)) (cond (Nat.beq m 203) (some .int) (none))) (cond (Nat.blt m 205) (cond (Nat.beq m 204) (some .int) (none)) (cond (Nat.beq m 205) (some .int) (none))))) (cond (Nat.blt m 210) (cond (Nat.blt m 208) (cond (Nat.blt m 207) (cond (Nat.beq m 206) (none) (none)) (cond (Nat.beq m 207) (some .boolean) (none))) (cond (Nat.blt m 209) (cond (Nat.beq m 208) (none) (none)) (cond (Nat.beq m 209) (some .int) (none)))) (cond (Nat.blt m 212) (cond (Nat.blt m 211) (cond (Nat.beq m 210) (some .int) (none)) (cond (Nat.beq m 211) (some .int) (none))) (cond (Nat.blt m 213) (cond (Nat.beq m 212) (some .int) (none)) (cond (Nat.beq m 213) (some .boolean) (none)))))) (cond (Nat.blt m 222) (cond (Nat.blt m 218) (cond (Nat.blt m 216) (cond (Nat.blt m 215) (cond (Nat.beq m 214) (some .int) (none)) (cond (Nat.beq m 215) (some .int) (none))) (cond (Nat.blt m 217) (cond (Nat.beq m 216) (some .int) (none)) (cond (Nat.beq m 217) (some .int) (none)))) (cond (Nat.blt m 220) (cond (Nat.blt m 219) (cond (Nat.beq m 218) (some .int) (none)) (cond (Nat.beq m 219) (some .int) (none))) (cond (Nat.blt m 221) (cond (Nat.beq m 220) (some .int) (none)) (cond (Nat.beq m 221) (some .int) (none))))) (cond (Nat.blt m 226) (cond (Nat.blt m 224) (cond (Nat.blt m 223) (cond (Nat.beq m 222) (some .int) (none)) (cond (Nat.beq m 223) (some .boolean) (none))) (cond (Nat.blt m 225) (cond (Nat.beq m 224) (some .int) (none)) (cond (Nat.beq m 225) (some .boolean) (none)))) (cond (Nat.blt m 228) (cond (Nat.blt m 227) (cond (Nat.beq m 226) (some .int) (none)) (cond (Nat.beq m 227) (some .int) (none))) (cond (Nat.blt m 229) (cond (Nat.beq m 228) (some .int) (none)) (cond (Nat.blt m 230) (cond (Nat.beq m 229) (some .int) (none)) (cond (Nat.beq m 230) (some .int) (none)))))))) (cond (Nat.blt m 247) (cond (Nat.blt m 239) (cond (Nat.blt m 235) (cond (Nat.blt m 233) (cond (Nat.blt m 232) (cond (Nat.beq m 231) (some .int) (none)) (cond (Nat.beq m 232) (some .int) (none))) (cond (Nat.blt m 234) (cond (Nat.beq m 233) (some .int) (none)) (cond (Nat.beq m 234) (some .int) (none)))) (cond (Nat.blt m 237) (cond (Nat.blt m 236) (cond (Nat.beq m 235) (none) (none)) (cond (Nat.beq m 236) (none) (none))) (cond (Nat.blt m 238) (cond (Nat.beq m 237) (some .int) (none)) (cond (Nat.beq m 238) (some .int) (none))))) (cond (Nat.blt m 243) (cond (Nat.blt m 241) (cond (Nat.blt m 240) (cond (Nat.beq m 239) (none) (none)) (cond (Nat.beq m 240) (some .boolean) (none))) (cond (Nat.blt m 242) (cond (Nat.beq m 241) (some .int) (none)) (cond (Nat.beq m 242) (some .int) (none)))) (cond (Nat.blt m 245) (cond (Nat.blt m 244) (cond (Nat.beq m 243) (some .int) (none)) (cond (Nat.beq m 244) (some .int) (none))) (cond (Nat.blt m 246) (cond (Nat.beq m 245) (some .int) (none)) (cond (Nat.beq m 246) (some .int) (none)))))) (cond (Nat.blt m 255) (cond (Nat.blt m 251) (cond (Nat.blt m 249) (cond (Nat.blt m 248) (cond (Nat.beq m 247) (none) (none)) (cond (Nat.beq m 248) (some .boolean) (none))) (cond (Nat.blt m 250) (cond (Nat.beq m 249) (some .boolean) (none)) (cond (Nat.beq m 250) (some .boolean) (none)))) (cond (Nat.blt m 253) (cond (Nat.blt m 252) (cond (Nat.beq m 251) (some .int) (none)) (cond (Nat.beq m 252) (some .int) (none))) (cond (Nat.blt m 254) (cond (Nat.beq m 253) (some .int) (none)) (cond (Nat.beq m 254) (some .int) (none))))) (cond (Nat.blt m 259) (cond (Nat.blt m 257) (cond (Nat.blt m 256) (cond (Nat.beq m 255) (some .int) (none)) (cond (Nat.beq m 256) (some .int) (none))) (cond (Nat.blt m 258) (cond (Nat.beq m 257) (none) (none)) (cond (Nat.beq m 258) (none) (none)))) (cond (Nat.blt m 261) (cond (Nat.blt m 260) (cond (Nat.beq m 259) (some .int) (none)) (cond (Nat.beq m 260) (some .int) (none))) (cond (Nat.blt m 262) (cond (Nat.beq m 261) (some .int) (none)) (cond (Nat.blt m 263) (cond (Nat.beq m 262) (some .int) (none)) (cond (Nat.beq m 263) (none) (none))))))))))
def ff0 : List (String × String × String × Bool) := [("TwinSlots$Bundle", "keys", "I", false), ("TwinSlots$Bundle", "images", "I", false), ("TwinSlots$Bundle", "limit", "I", false), ("TwinSlots$Bundle", "tries", "I", false), ("TwinSlots$Bundle", "watch", "I", false), ("TwinSlots$Bundle", "secrets", "[I", true), ("TwinSlots$Bundle", "under", "[I", true), ("TwinSlots$Bundle", "words", "[I", true)]
def ff1 : List (String × String × String × Bool) := [("TwinSlots$Lives", "bundle", "LTwinSlots$Bundle;", true), ("TwinSlots$Lives", "real", "LTwinSlots$Machine;", true), ("TwinSlots$Lives", "tried", "LTwinSlots$Machine;", true), ("TwinSlots$Lives", "slotStarts", "[I", true), ("TwinSlots$Lives", "x", "J", false), ("TwinSlots$Lives", "deed", "I", false), ("TwinSlots$Lives", "a", "I", false), ("TwinSlots$Lives", "b", "I", false), ("TwinSlots$Lives", "starts", "I", false), ("TwinSlots$Lives", "recoveries", "I", false), ("TwinSlots$Lives", "nothings", "I", false), ("TwinSlots$Lives", "powerFailures", "I", false)]
def ff2 : List (String × String × String × Bool) := [("TwinSlots$Machine", "bundle", "LTwinSlots$Bundle;", true), ("TwinSlots$Machine", "cells", "[I", true), ("TwinSlots$Machine", "flagsA", "I", false), ("TwinSlots$Machine", "flagsB", "I", false), ("TwinSlots$Machine", "failures", "I", false), ("TwinSlots$Machine", "last", "I", false), ("TwinSlots$Machine", "newest", "I", false), ("TwinSlots$Machine", "cut", "I", false), ("TwinSlots$Machine", "writes", "I", false), ("TwinSlots$Machine", "failed", "Z", false)]
def ff3 : List (String × String × String × Bool) := [("TwinSlots$Past", "machine", "LTwinSlots$Machine;", true), ("TwinSlots$Past", "rows", "[I", true), ("TwinSlots$Past", "top", "I", false), ("TwinSlots$Past", "depth", "I", false)]
def ff4 : List (String × String × String × Bool) := [("TwinSlots$Reader", "text", "[I", true), ("TwinSlots$Reader", "into", "LTwinSlots$Bundle;", true), ("TwinSlots$Reader", "length", "I", false), ("TwinSlots$Reader", "place", "I", false), ("TwinSlots$Reader", "fault", "I", false), ("TwinSlots$Reader", "number", "I", false), ("TwinSlots$Reader", "numberPlace", "I", false), ("TwinSlots$Reader", "limitTold", "Z", false), ("TwinSlots$Reader", "triesTold", "Z", false), ("TwinSlots$Reader", "watchTold", "Z", false), ("TwinSlots$Reader", "lines", "I", false)]
def ff5 : List (String × String × String × Bool) := [("TwinSlots$Routes", "bundle", "LTwinSlots$Bundle;", true), ("TwinSlots$Routes", "real", "LTwinSlots$Machine;", true), ("TwinSlots$Routes", "tried", "LTwinSlots$Machine;", true), ("TwinSlots$Routes", "stands", "[J", true), ("TwinSlots$Routes", "parents", "[I", true), ("TwinSlots$Routes", "moves", "[I", true), ("TwinSlots$Routes", "depths", "[I", true), ("TwinSlots$Routes", "places", "[I", true), ("TwinSlots$Routes", "alike", "[I", true), ("TwinSlots$Routes", "kept", "I", false), ("TwinSlots$Routes", "length", "I", false), ("TwinSlots$Routes", "lastParent", "I", false), ("TwinSlots$Routes", "lastMove", "I", false)]
def ff6 : List (String × String × String × Bool) := [("TwinSlots$Trials", "real", "LTwinSlots$Machine;", true), ("TwinSlots$Trials", "tried", "LTwinSlots$Machine;", true), ("TwinSlots$Trials", "again", "LTwinSlots$Machine;", true)]
def ff7 : List (String × String × String × Bool) := [("TwinSlots", "tape", "[I", true), ("TwinSlots", "taped", "I", false), ("TwinSlots", "bundle", "LTwinSlots$Bundle;", true), ("TwinSlots", "draft", "LTwinSlots$Bundle;", true), ("TwinSlots", "reader", "LTwinSlots$Reader;", true), ("TwinSlots", "machine", "LTwinSlots$Machine;", true), ("TwinSlots", "past", "LTwinSlots$Past;", true), ("TwinSlots", "trials", "LTwinSlots$Trials;", true), ("TwinSlots", "lives", "LTwinSlots$Lives;", true), ("TwinSlots", "routes", "LTwinSlots$Routes;", true), ("TwinSlots", "x", "I", false)]
def ff8 : List (String × String × String × Bool) := [("TwinSlotsModel", "tape", "[B", true), ("TwinSlotsModel", "taped", "I", false), ("TwinSlotsModel", "p", "I", false), ("TwinSlotsModel", "fault", "I", false), ("TwinSlotsModel", "numberAt", "I", false), ("TwinSlotsModel", "keys", "I", false), ("TwinSlotsModel", "images", "I", false), ("TwinSlotsModel", "newKeys", "I", false), ("TwinSlotsModel", "newImages", "I", false), ("TwinSlotsModel", "settingsTold", "I", false), ("TwinSlotsModel", "secret", "[I", true), ("TwinSlotsModel", "under", "[I", true), ("TwinSlotsModel", "newSecret", "[I", true), ("TwinSlotsModel", "newUnder", "[I", true), ("TwinSlotsModel", "imageWord", "[I", true), ("TwinSlotsModel", "newWord", "[I", true), ("TwinSlotsModel", "setting", "[I", true), ("TwinSlotsModel", "newSetting", "[I", true), ("TwinSlotsModel", "now", "[I", true), ("TwinSlotsModel", "past", "[I", true), ("TwinSlotsModel", "waiting", "[I", true), ("TwinSlotsModel", "pastMany", "I", false), ("TwinSlotsModel", "left", "I", false), ("TwinSlotsModel", "done", "I", false), ("TwinSlotsModel", "isCut", "Z", false), ("TwinSlotsModel", "flag", "[I", true), ("TwinSlotsModel", "octets", "[I", true), ("TwinSlotsModel", "copied", "[I", true), ("TwinSlotsModel", "flagsAhead", "[I", true), ("TwinSlotsModel", "flagsBehind", "[I", true), ("TwinSlotsModel", "stand", "[I", true), ("TwinSlotsModel", "sign", "[I", true), ("TwinSlotsModel", "from", "[I", true), ("TwinSlotsModel", "by", "[I", true), ("TwinSlotsModel", "goal", "I", false), ("TwinSlotsModel", "x", "I", false), ("TwinSlotsModel", "lifeStarts", "I", false), ("TwinSlotsModel", "lifeRecovery", "I", false), ("TwinSlotsModel", "lifeNothing", "I", false), ("TwinSlotsModel", "lifeCuts", "I", false), ("TwinSlotsModel", "lifeOld", "I", false)]
def nthF : List (String × String × String × Bool) → Nat → String × String × String × Bool
  | [], _ => ("", "", "", false)
  | a :: _, 0 => a
  | _ :: l, n + 1 => nthF l n
def ffs (ci : Nat) : List (String × String × String × Bool) := cond (Nat.blt ci 4) (cond (Nat.blt ci 2) (cond (Nat.blt ci 1) (cond (Nat.beq ci 0) (ff0) ([])) (cond (Nat.beq ci 1) (ff1) ([]))) (cond (Nat.blt ci 3) (cond (Nat.beq ci 2) (ff2) ([])) (cond (Nat.beq ci 3) (ff3) ([])))) (cond (Nat.blt ci 6) (cond (Nat.blt ci 5) (cond (Nat.beq ci 4) (ff4) ([])) (cond (Nat.beq ci 5) (ff5) ([]))) (cond (Nat.blt ci 7) (cond (Nat.beq ci 6) (ff6) ([])) (cond (Nat.blt ci 8) (cond (Nat.beq ci 7) (ff7) ([])) (cond (Nat.beq ci 8) (ff8) ([])))))
def nF (ci : Nat) : Nat := cond (Nat.blt ci 4) (cond (Nat.blt ci 2) (cond (Nat.blt ci 1) (cond (Nat.beq ci 0) (8) (0)) (cond (Nat.beq ci 1) (12) (0))) (cond (Nat.blt ci 3) (cond (Nat.beq ci 2) (10) (0)) (cond (Nat.beq ci 3) (4) (0)))) (cond (Nat.blt ci 6) (cond (Nat.blt ci 5) (cond (Nat.beq ci 4) (11) (0)) (cond (Nat.beq ci 5) (13) (0))) (cond (Nat.blt ci 7) (cond (Nat.beq ci 6) (3) (0)) (cond (Nat.blt ci 8) (cond (Nat.beq ci 7) (11) (0)) (cond (Nat.beq ci 8) (41) (0)))))
def cTb (ci : Nat) : u_T := nthF (ffs ci)
abbrev cls0 : List vw_C := [(cN 0, cTb 0, 8), (cN 1, cTb 1, 12), (cN 2, cTb 2, 10), (cN 3, cTb 3, 4), (cN 4, cTb 4, 11), (cN 5, cTb 5, 13), (cN 6, cTb 6, 3), (cN 7, cTb 7, 11), (cN 8, cTb 8, 41)]
def kCon (j : Nat) : Int := cond (Nat.blt j 2) (cond (Nat.blt j 1) (cond (Nat.beq j 0) (1000000) (0)) (cond (Nat.beq j 1) (99999) (0))) (cond (Nat.blt j 3) (cond (Nat.beq j 2) (65535) (0)) (cond (Nat.beq j 3) (65536) (0)))
def kConL (j : Nat) : Int := cond (Nat.blt j 10) (cond (Nat.blt j 5) (cond (Nat.blt j 2) (cond (Nat.blt j 1) (cond (Nat.beq j 0) (-7046029254386353131) (0)) (cond (Nat.beq j 1) (1103515245) (0))) (cond (Nat.blt j 3) (cond (Nat.beq j 2) (12345) (0)) (cond (Nat.blt j 4) (cond (Nat.beq j 3) (2147483648) (0)) (cond (Nat.beq j 4) (65536) (0))))) (cond (Nat.blt j 7) (cond (Nat.blt j 6) (cond (Nat.beq j 5) (97) (0)) (cond (Nat.beq j 6) (122) (0))) (cond (Nat.blt j 8) (cond (Nat.beq j 7) (48) (0)) (cond (Nat.blt j 9) (cond (Nat.beq j 8) (57) (0)) (cond (Nat.beq j 9) (527) (0)))))) (cond (Nat.blt j 15) (cond (Nat.blt j 12) (cond (Nat.blt j 11) (cond (Nat.beq j 10) (31) (0)) (cond (Nat.beq j 11) (13) (0))) (cond (Nat.blt j 13) (cond (Nat.beq j 12) (5) (0)) (cond (Nat.blt j 14) (cond (Nat.beq j 13) (4) (0)) (cond (Nat.beq j 14) (200) (0))))) (cond (Nat.blt j 18) (cond (Nat.blt j 16) (cond (Nat.beq j 15) (3) (0)) (cond (Nat.blt j 17) (cond (Nat.beq j 16) (30) (0)) (cond (Nat.beq j 17) (7) (0)))) (cond (Nat.blt j 19) (cond (Nat.beq j 18) (2) (0)) (cond (Nat.blt j 20) (cond (Nat.beq j 19) (6) (0)) (cond (Nat.beq j 20) (60) (0))))))
def aT (j : Nat) : Jvm.ClassFile.FieldType := cond (Nat.beq j 1) .int (cond (Nat.beq j 2) .byte .long)
abbrev jcCoder : ByteArray := prog_13_method_152_code
abbrev jcLen : ByteArray := prog_13_method_54_code
abbrev jcLatin : ByteArray := prog_13_method_154_code
abbrev jcChr : ByteArray := prog_13_method_56_code
abbrev jcLchr : ByteArray := prog_14_method_2_code
abbrev jcChk : ByteArray := prog_13_method_155_code
abbrev jcPchk : ByteArray := prog_18_method_11_code
def jw (j : Nat) : Jvm.Cond := cond (Nat.blt j 13) (cond (Nat.blt j 6) (cond (Nat.blt j 3) (cond (Nat.blt j 1) (cond (Nat.beq j 0) ((Jvm.Cond.fieldLink "java/lang/String" (9 : Nat) "java/lang/String" "value" "[B")) (.initialized "java/lang/Object")) (cond (Nat.blt j 2) (cond (Nat.beq j 1) ((Jvm.Cond.fieldLink "java/lang/String" (15 : Nat) "java/lang/String" "coder" "B")) (.initialized "java/lang/Object")) (cond (Nat.beq j 2) ((Jvm.Cond.fieldLink "java/lang/String" (38 : Nat) "java/lang/String" "COMPACT_STRINGS" "Z")) (.initialized "java/lang/Object")))) (cond (Nat.blt j 4) (cond (Nat.beq j 3) ((Jvm.Cond.methodLink "java/lang/String" (335 : Nat) ({ cls := "java/lang/String", name := "coder", desc := "()B" } : Jvm.MethodName))) (.initialized "java/lang/Object")) (cond (Nat.blt j 5) (cond (Nat.beq j 4) ((Jvm.Cond.instanceMethod ({ cls := "java/lang/String", name := "coder", desc := "()B" } : Jvm.MethodName))) (.initialized "java/lang/Object")) (cond (Nat.beq j 5) ((Jvm.Cond.selects "java/lang/String" ({ cls := "java/lang/String", name := "coder", desc := "()B" } : Jvm.MethodName) ({ cls := "java/lang/String", name := "coder", desc := "()B" } : Jvm.MethodName))) (.initialized "java/lang/Object"))))) (cond (Nat.blt j 9) (cond (Nat.blt j 7) (cond (Nat.beq j 6) ((Jvm.Cond.code ({ cls := "java/lang/String", name := "coder", desc := "()B" } : Jvm.MethodName) prog_13_method_152_code (1 : Nat) (Option.some Jvm.ClassFile.FieldType.byte))) (.initialized "java/lang/Object")) (cond (Nat.blt j 8) (cond (Nat.beq j 7) ((Jvm.Cond.instanceMethod ({ cls := "java/lang/String", name := "length", desc := "()I" } : Jvm.MethodName))) (.initialized "java/lang/Object")) (cond (Nat.beq j 8) ((Jvm.Cond.selects "java/lang/String" ({ cls := "java/lang/String", name := "length", desc := "()I" } : Jvm.MethodName) ({ cls := "java/lang/String", name := "length", desc := "()I" } : Jvm.MethodName))) (.initialized "java/lang/Object")))) (cond (Nat.blt j 11) (cond (Nat.blt j 10) (cond (Nat.beq j 9) ((Jvm.Cond.code ({ cls := "java/lang/String", name := "length", desc := "()I" } : Jvm.MethodName) prog_13_method_54_code (1 : Nat) (Option.some Jvm.ClassFile.FieldType.int))) (.initialized "java/lang/Object")) (cond (Nat.beq j 10) ((Jvm.Cond.methodLink "java/lang/String" (492 : Nat) ({ cls := "java/lang/String", name := "isLatin1", desc := "()Z" } : Jvm.MethodName))) (.initialized "java/lang/Object"))) (cond (Nat.blt j 12) (cond (Nat.beq j 11) ((Jvm.Cond.instanceMethod ({ cls := "java/lang/String", name := "isLatin1", desc := "()Z" } : Jvm.MethodName))) (.initialized "java/lang/Object")) (cond (Nat.beq j 12) ((Jvm.Cond.selects "java/lang/String" ({ cls := "java/lang/String", name := "isLatin1", desc := "()Z" } : Jvm.MethodName) ({ cls := "java/lang/String", name := "isLatin1", desc := "()Z" } : Jvm.MethodName))) (.initialized "java/lang/Object")))))) (cond (Nat.blt j 20) (cond (Nat.blt j 16) (cond (Nat.blt j 14) (cond (Nat.beq j 13) ((Jvm.Cond.code ({ cls := "java/lang/String", name := "isLatin1", desc := "()Z" } : Jvm.MethodName) prog_13_method_154_code (1 : Nat) (Option.some Jvm.ClassFile.FieldType.boolean))) (.initialized "java/lang/Object")) (cond (Nat.blt j 15) (cond (Nat.beq j 14) ((Jvm.Cond.instanceMethod ({ cls := "java/lang/String", name := "charAt", desc := "(I)C" } : Jvm.MethodName))) (.initialized "java/lang/Object")) (cond (Nat.beq j 15) ((Jvm.Cond.selects "java/lang/String" ({ cls := "java/lang/String", name := "charAt", desc := "(I)C" } : Jvm.MethodName) ({ cls := "java/lang/String", name := "charAt", desc := "(I)C" } : Jvm.MethodName))) (.initialized "java/lang/Object")))) (cond (Nat.blt j 18) (cond (Nat.blt j 17) (cond (Nat.beq j 16) ((Jvm.Cond.code ({ cls := "java/lang/String", name := "charAt", desc := "(I)C" } : Jvm.MethodName) prog_13_method_56_code (2 : Nat) (Option.some Jvm.ClassFile.FieldType.char))) (.initialized "java/lang/Object")) (cond (Nat.beq j 17) ((Jvm.Cond.methodLink "java/lang/String" (495 : Nat) ({ cls := "java/lang/StringLatin1", name := "charAt", desc := "([BI)C" } : Jvm.MethodName))) (.initialized "java/lang/Object"))) (cond (Nat.blt j 19) (cond (Nat.beq j 18) ((Jvm.Cond.static ({ cls := "java/lang/StringLatin1", name := "charAt", desc := "([BI)C" } : Jvm.MethodName))) (.initialized "java/lang/Object")) (cond (Nat.beq j 19) ((Jvm.Cond.code ({ cls := "java/lang/StringLatin1", name := "charAt", desc := "([BI)C" } : Jvm.MethodName) prog_14_method_2_code (2 : Nat) (Option.some Jvm.ClassFile.FieldType.char))) (.initialized "java/lang/Object"))))) (cond (Nat.blt j 23) (cond (Nat.blt j 21) (cond (Nat.beq j 20) ((Jvm.Cond.methodLink "java/lang/StringLatin1" (9 : Nat) ({ cls := "java/lang/String", name := "checkIndex", desc := "(II)V" } : Jvm.MethodName))) (.initialized "java/lang/Object")) (cond (Nat.blt j 22) (cond (Nat.beq j 21) ((Jvm.Cond.static ({ cls := "java/lang/String", name := "checkIndex", desc := "(II)V" } : Jvm.MethodName))) (.initialized "java/lang/Object")) (cond (Nat.beq j 22) ((Jvm.Cond.code ({ cls := "java/lang/String", name := "checkIndex", desc := "(II)V" } : Jvm.MethodName) prog_13_method_155_code (2 : Nat) (Option.none : Option Jvm.ClassFile.FieldType))) (.initialized "java/lang/Object")))) (cond (Nat.blt j 25) (cond (Nat.blt j 24) (cond (Nat.beq j 23) ((Jvm.Cond.fieldLink "java/lang/String" (1053 : Nat) "jdk/internal/util/Preconditions" "SIOOBE_FORMATTER" "Ljava/util/function/BiFunction;")) (.initialized "java/lang/Object")) (cond (Nat.beq j 24) ((Jvm.Cond.methodLink "java/lang/String" (1059 : Nat) ({ cls := "jdk/internal/util/Preconditions", name := "checkIndex", desc := "(IILjava/util/function/BiFunction;)I" } : Jvm.MethodName))) (.initialized "java/lang/Object"))) (cond (Nat.blt j 26) (cond (Nat.beq j 25) ((Jvm.Cond.static ({ cls := "jdk/internal/util/Preconditions", name := "checkIndex", desc := "(IILjava/util/function/BiFunction;)I" } : Jvm.MethodName))) (.initialized "java/lang/Object")) (cond (Nat.beq j 26) ((Jvm.Cond.code ({ cls := "jdk/internal/util/Preconditions", name := "checkIndex", desc := "(IILjava/util/function/BiFunction;)I" } : Jvm.MethodName) prog_18_method_11_code (3 : Nat) (Option.some Jvm.ClassFile.FieldType.int))) (.initialized "java/lang/Object"))))))
/-- a word by its code -/
def wd (q : Nat × Nat × Nat × Nat) : Jvm.Cond := match q with
  | (0, a, i, n) => .fieldLink (cN a) i (nthF (ffs (n / 100)) (n % 100)).1 (nthF (ffs (n / 100)) (n % 100)).2.1 (nthF (ffs (n / 100)) (n % 100)).2.2.1
  | (1, a, i, m) => .methodLink (cN a) i (mN m)
  | (2, m, _, _) => .instanceMethod (mN m)
  | (3, m, _, _) => .code (mN m) (mCode m) (mMaxL m) (mRetT m)
  | (4, m, _, _) => .static (mN m)
  | (5, m, _, _) => .privateMethod (mN m)
  | (6, a, i, c) => .classLink (cN a) i (cN c)
  | (7, c, _, _) => .instantiable (cN c) (nF c)
  | (8, a, _, _) => .initialized (cN a)
  | (9, c, f, _) => u_lay (cN c) (cTb c) f
  | (10, a, i, j) => .constant (cN a) i (Int32.ofInt (kCon j))
  | (11, a, i, j) => .constantLong (cN a) i (Int64.ofInt (kConL j))
  | (12, j, _, _) => .arrayClass (aT j)
  | (13, m, _, _) => .selects (cN (mOwn m)) (mN m) (mN m)
  | (20, a, i, _) => .methodLink (cN a) i objectInit
  | (21, a, i, _) => .methodLink (cN a) i arraycopyName
  | (22, a, i, _) => .methodLink (cN a) i Lib.Math.min.name
  | (23, a, i, _) => .methodLink (cN a) i Lib.Math.max.name
  | (24, a, i, _) => .methodLink (cN a) i ⟨"java/lang/String", "length", "()I"⟩
  | (25, a, i, _) => .methodLink (cN a) i ⟨"java/lang/String", "charAt", "(I)C"⟩
  | (30, _, _, _) => .instanceMethod objectInit
  | (31, _, _, _) => .static arraycopyName
  | (32, _, _, _) => .static Lib.Math.min.name
  | (33, _, _, _) => .static Lib.Math.max.name
  | (34, _, _, _) => .native arraycopyName
  | (35, _, _, _) => .code Lib.Math.min.name Lib.Math.min.code 2 (some .int)
  | (36, _, _, _) => .code Lib.Math.max.name Lib.Math.max.code 2 (some .int)
  | (37, _, _, _) => .code objectInit ⟨#[0xb1]⟩ 1 none
  | (40, j, _, _) => jw j
  | _ => .initialized "java/lang/Object"
def pick : List Bool → List Jvm.Cond → List Jvm.Cond
  | true :: b, w :: l => w :: pick b l
  | false :: b, _ :: l => pick b l
  | _, _ => []
theorem pick_in : ∀ (b : List Bool) (l : List Jvm.Cond) (w : Jvm.Cond), w ∈ pick b l → w ∈ l
  | [], l, w, h => by cases l <;> simp [pick] at h
  | true :: b, [], w, h => by simp [pick] at h
  | false :: b, [], w, h => by simp [pick] at h
  | true :: b, x :: l, w, h => by
    rcases List.mem_cons.mp h with h | h
    · exact List.mem_cons.mpr (Or.inl h)
    · exact List.mem_cons.mpr (Or.inr (pick_in b l w h))
  | false :: b, x :: l, w, h => List.mem_cons.mpr (Or.inr (pick_in b l w h))
def wc_1 : List (Nat × Nat × Nat × Nat) := [(8, 51, 0, 0), (8, 7, 0, 0), (8, 0, 0, 0), (8, 2, 0, 0), (8, 4, 0, 0), (8, 3, 0, 0), (8, 6, 0, 0), (8, 1, 0, 0), (8, 5, 0, 0), (8, 8, 0, 0), (8, 50, 0, 0), (8, 52, 0, 0), (8, 55, 0, 0), (8, 56, 0, 0), (8, 57, 0, 0), (8, 54, 0, 0), (8, 53, 0, 0), (6, 51, 7, 7), (7, 7, 0, 0), (1, 51, 9, 109), (2, 109, 0, 0), (3, 109, 0, 0), (20, 7, 3, 0), (30, 0, 0, 0), (37, 0, 0, 0), (6, 7, 9, 0), (7, 0, 0, 0), (1, 7, 11, 1), (2, 1, 0, 0), (3, 1, 0, 0), (20, 0, 3, 0), (0, 0, 31, 0), (0, 4, 92, 0), (0, 7, 226, 0), (0, 0, 34, 1), (0, 1, 93, 1), (0, 4, 107, 1), (0, 5, 108, 1), (0, 7, 209, 1), (0, 0, 21, 2), (0, 4, 141, 2), (0, 2, 167, 2), (0, 7, 229, 2), (0, 0, 25, 3), (0, 4, 143, 3), (0, 2, 190, 3), (0, 7, 232, 3), (0, 0, 28, 4), (0, 4, 145, 4), (0, 7, 238, 4), (0, 2, 206, 4), (0, 0, 9, 5), (0, 0, 15, 6), (0, 2, 93, 6), (0, 0, 18, 7), (0, 7, 104, 7), (0, 4, 129, 7), (0, 2, 33, 7), (9, 0, 0, 0), (9, 0, 1, 0), (9, 0, 2, 0), (9, 0, 3, 0), (9, 0, 4, 0), (9, 0, 5, 0), (9, 0, 6, 0), (9, 0, 7, 0), (12, 1, 0, 0), (6, 7, 12, 2), (7, 2, 0, 0), (1, 7, 14, 18), (2, 18, 0, 0), (3, 18, 0, 0), (20, 2, 3, 0), (1, 2, 19, 20), (2, 20, 0, 0), (13, 20, 0, 0), (3, 20, 0, 0), (0, 2, 9, 200), (0, 2, 15, 201), (0, 2, 61, 202), (0, 2, 64, 203), (0, 5, 149, 204), (0, 2, 67, 204), (0, 7, 247, 204), (0, 5, 152, 205), (0, 2, 70, 205), (0, 7, 250, 205), (0, 2, 53, 206), (0, 7, 253, 206), (0, 2, 76, 207), (0, 2, 86, 208), (0, 2, 89, 209), (9, 2, 0, 0), (9, 2, 1, 0), (9, 2, 2, 0), (9, 2, 3, 0), (9, 2, 4, 0), (9, 2, 5, 0), (9, 2, 6, 0), (9, 2, 7, 0), (9, 2, 8, 0), (9, 2, 9, 0), (6, 7, 25, 4), (7, 4, 0, 0), (1, 7, 27, 68), (2, 68, 0, 0), (3, 68, 0, 0), (20, 4, 3, 0), (0, 4, 9, 400), (0, 4, 15, 401), (0, 4, 19, 402), (0, 4, 23, 403), (0, 4, 26, 404), (0, 4, 98, 405), (0, 4, 125, 406), (0, 4, 32, 407), (0, 4, 36, 408), (0, 4, 39, 409), (0, 4, 29, 410), (0, 7, 97, 410), (9, 4, 0, 0), (9, 4, 1, 0), (9, 4, 2, 0), (9, 4, 3, 0), (9, 4, 4, 0), (9, 4, 5, 0), (9, 4, 6, 0), (9, 4, 7, 0), (9, 4, 8, 0), (9, 4, 9, 0), (9, 4, 10, 0), (6, 7, 41, 3), (7, 3, 0, 0), (1, 7, 43, 64), (2, 64, 0, 0), (3, 64, 0, 0), (20, 3, 3, 0), (0, 3, 9, 300), (0, 3, 15, 301), (0, 3, 19, 302), (0, 3, 29, 303), (0, 7, 235, 303), (9, 3, 0, 0), (9, 3, 1, 0), (9, 3, 2, 0), (9, 3, 3, 0), (6, 7, 50, 6), (7, 6, 0, 0), (1, 7, 52, 100), (2, 100, 0, 0), (3, 100, 0, 0), (20, 6, 3, 0), (6, 6, 15, 2), (1, 6, 17, 18), (0, 6, 9, 600), (0, 6, 20, 601), (0, 6, 23, 602), (9, 6, 0, 0), (9, 6, 1, 0), (9, 6, 2, 0), (6, 7, 59, 1), (7, 1, 0, 0), (1, 7, 61, 11), (2, 11, 0, 0), (3, 11, 0, 0), (20, 1, 3, 0), (6, 1, 19, 2), (1, 1, 21, 18), (0, 1, 9, 100), (0, 1, 15, 101), (0, 1, 24, 102), (0, 1, 27, 103), (0, 1, 31, 104), (0, 1, 61, 105), (0, 1, 80, 106), (0, 1, 83, 107), (0, 1, 35, 108), (0, 1, 39, 109), (0, 1, 42, 110), (0, 1, 45, 111), (9, 1, 0, 0), (9, 1, 1, 0), (9, 1, 2, 0), (9, 1, 3, 0), (9, 1, 4, 0), (9, 1, 5, 0), (9, 1, 6, 0), (9, 1, 7, 0), (9, 1, 8, 0)]
set_option maxRecDepth 100000 in
theorem wp_1 : wc_1.map wd = pick [true, true, true, true, true, true, true, true, true, true, true, true, true, true, true, false, true, true, true, true, true, true, true, true, true, true, true, true, true, true, true, true, true, true, true, true, true, true, true, true, true, true, true, true, true, true, true, true, true, true, true, true, true, true, true, true, true, true, true, true, false, true, false, true, false, true, false, true, false, true, false, true, false, true, false, false, true, true, true, true, true, true, true, true, true, true, true, true, true, true, true, true, true, true, true, true, true, true, true, true, true, true, true, false, true, false, true, false, true, false, true, false, true, false, true, false, true, false, true, false, true, false, false, true, true, true, true, true, true, true, true, true, true, true, true, true, true, true, true, true, true, true, false, true, false, true, false, true, false, true, false, true, false, true, false, true, false, true, false, true, false, true, false, false, true, true, true, true, true, true, true, true, true, true, true, true, false, true, false, true, false, true, false, false, true, true, true, true, true, true, true, true, true, true, true, true, false, true, false, true, false, false, true, true, true, true, true, true, true, true, true, true, true, true, true, true, true, true, true, true, true, true, true, false, true, false, true, false, true, false, true, false, true, false, true, false, true, false, true, false] tables_1_1 := rfl
def wc_2 : List (Nat × Nat × Nat × Nat) := [(9, 1, 9, 0), (9, 1, 10, 0), (9, 1, 11, 0), (6, 7, 66, 5), (7, 5, 0, 0), (1, 7, 68, 85), (2, 85, 0, 0), (3, 85, 0, 0), (20, 5, 3, 0), (6, 5, 19, 2), (1, 5, 21, 18), (0, 5, 9, 500), (0, 5, 15, 501), (0, 5, 24, 502), (0, 5, 27, 503), (0, 5, 31, 504), (0, 5, 35, 505), (0, 5, 38, 506), (0, 5, 41, 507), (0, 5, 44, 508), (0, 5, 93, 509), (0, 5, 47, 510), (0, 5, 58, 511), (0, 5, 55, 512), (9, 5, 0, 0), (9, 5, 1, 0), (9, 5, 2, 0), (9, 5, 3, 0), (9, 5, 4, 0), (9, 5, 5, 0), (9, 5, 6, 0), (9, 5, 7, 0), (9, 5, 8, 0), (9, 5, 9, 0), (9, 5, 10, 0), (9, 5, 11, 0), (9, 5, 12, 0), (12, 3, 0, 0), (0, 7, 17, 700), (0, 7, 73, 701), (0, 7, 34, 702), (0, 7, 21, 703), (0, 7, 30, 704), (0, 7, 37, 705), (0, 7, 46, 706), (0, 7, 55, 707), (0, 7, 62, 708), (0, 7, 69, 709), (0, 7, 206, 710), (9, 7, 0, 0), (9, 7, 1, 0), (9, 7, 2, 0), (9, 7, 3, 0), (9, 7, 4, 0), (9, 7, 5, 0), (9, 7, 6, 0), (9, 7, 7, 0), (9, 7, 8, 0), (9, 7, 9, 0), (9, 7, 10, 0), (1, 51, 13, 110), (2, 110, 0, 0), (13, 110, 0, 0), (3, 110, 0, 0), (1, 7, 77, 111), (5, 111, 0, 0), (2, 111, 0, 0), (3, 111, 0, 0), (1, 7, 81, 98), (4, 98, 0, 0), (3, 98, 0, 0), (1, 51, 18, 112), (2, 112, 0, 0), (13, 112, 0, 0), (3, 112, 0, 0), (1, 51, 23, 113), (2, 113, 0, 0), (13, 113, 0, 0), (3, 113, 0, 0), (1, 7, 87, 69), (2, 69, 0, 0), (13, 69, 0, 0), (3, 69, 0, 0), (1, 4, 42, 2), (2, 2, 0, 0), (13, 2, 0, 0), (3, 2, 0, 0), (1, 0, 37, 263), (4, 263, 0, 0), (3, 263, 0, 0), (1, 4, 47, 70), (5, 70, 0, 0), (2, 70, 0, 0), (3, 70, 0, 0), (1, 4, 51, 80), (5, 80, 0, 0), (2, 80, 0, 0), (3, 80, 0, 0), (1, 4, 54, 81), (5, 81, 0, 0), (2, 81, 0, 0), (3, 81, 0, 0), (1, 4, 64, 78), (5, 78, 0, 0), (2, 78, 0, 0), (3, 78, 0, 0), (24, 4, 147, 0), (40, 7, 0, 0), (40, 8, 0, 0), (40, 9, 0, 0), (40, 3, 0, 0), (40, 4, 0, 0), (40, 5, 0, 0), (40, 6, 0, 0), (40, 2, 0, 0), (25, 4, 151, 0), (40, 14, 0, 0), (40, 15, 0, 0), (40, 16, 0, 0), (40, 10, 0, 0), (40, 11, 0, 0), (40, 12, 0, 0), (40, 13, 0, 0), (40, 17, 0, 0), (40, 18, 0, 0), (40, 19, 0, 0), (40, 20, 0, 0), (40, 21, 0, 0), (40, 22, 0, 0), (40, 23, 0, 0), (40, 24, 0, 0), (40, 25, 0, 0), (40, 26, 0, 0), (1, 4, 155, 83), (4, 83, 0, 0), (3, 83, 0, 0), (1, 4, 68, 71), (5, 71, 0, 0), (2, 71, 0, 0), (3, 71, 0, 0), (1, 4, 58, 82), (5, 82, 0, 0), (2, 82, 0, 0), (3, 82, 0, 0), (1, 4, 95, 79), (5, 79, 0, 0), (2, 79, 0, 0), (3, 79, 0, 0), (1, 4, 138, 84), (4, 84, 0, 0), (3, 84, 0, 0), (10, 4, 158, 0), (22, 4, 159, 0), (32, 0, 0, 0), (35, 0, 0, 0), (1, 4, 103, 7), (2, 7, 0, 0), (13, 7, 0, 0), (3, 7, 0, 0), (1, 0, 57, 98), (1, 4, 74, 72), (5, 72, 0, 0), (2, 72, 0, 0), (3, 72, 0, 0), (1, 4, 112, 73), (5, 73, 0, 0), (2, 73, 0, 0), (3, 73, 0, 0), (1, 4, 118, 74), (5, 74, 0, 0), (2, 74, 0, 0), (3, 74, 0, 0), (10, 4, 128, 1), (1, 4, 132, 98), (1, 4, 121, 8), (2, 8, 0, 0), (13, 8, 0, 0), (3, 8, 0, 0), (1, 0, 53, 97), (4, 97, 0, 0), (3, 97, 0, 0), (1, 0, 61, 9), (4, 9, 0, 0), (3, 9, 0, 0)]
set_option maxRecDepth 100000 in
theorem wp_2 : wc_2.map wd = pick [true, false, true, false, true, false, false, true, true, true, true, true, true, true, true, true, true, true, true, true, true, true, true, true, true, true, true, true, true, false, true, false, true, false, true, false, true, false, true, false, true, false, true, false, true, false, true, false, true, false, true, false, true, false, false, true, true, true, true, true, true, true, true, true, true, true, true, true, false, true, false, true, false, true, false, true, false, true, false, true, false, true, false, true, false, true, false, true, false, false, true, true, true, true, true, true, true, true, true, true, true, true, true, true, true, true, true, true, true, true, true, true, true, true, true, true, true, true, true, true, true, true, true, true, true, true, true, true, true, true, true, true, false, true, true, true, true, true, true, true, true, true, true, true, true, true, false, true, true, true, true, true, true, true, true, true, true, true, true, true, true, true, false, true, true, true, false, false, false, false, false, false, false, false, false, false, false, false, false, false, false, false, false, false, false, true, true, true, true, true, true, true, true, true, true, true, true, true, true, true, true, true, true, true, true, true, true, false, true, true, true, true, true, false, true, true, true, true, false, true, true, true, true, false, true, true, true, true, true, true, true, true, true, true, true, true, true, true, true, true] tables_1_2 := rfl
def wc_3 : List (Nat × Nat × Nat × Nat) := [(10, 0, 68, 2), (1, 0, 65, 10), (2, 10, 0, 0), (13, 10, 0, 0), (3, 10, 0, 0), (1, 4, 79, 75), (5, 75, 0, 0), (2, 75, 0, 0), (3, 75, 0, 0), (1, 4, 84, 76), (5, 76, 0, 0), (2, 76, 0, 0), (3, 76, 0, 0), (1, 4, 89, 77), (5, 77, 0, 0), (2, 77, 0, 0), (3, 77, 0, 0), (1, 7, 91, 3), (2, 3, 0, 0), (13, 3, 0, 0), (3, 3, 0, 0), (1, 0, 43, 99), (4, 99, 0, 0), (3, 99, 0, 0), (21, 50, 7, 0), (31, 0, 0, 0), (34, 0, 0, 0), (1, 7, 94, 67), (2, 67, 0, 0), (13, 67, 0, 0), (3, 67, 0, 0), (12, 2, 0, 0), (1, 51, 28, 114), (2, 114, 0, 0), (13, 114, 0, 0), (3, 114, 0, 0), (1, 7, 100, 5), (2, 5, 0, 0), (13, 5, 0, 0), (3, 5, 0, 0), (1, 7, 107, 97), (1, 51, 33, 115), (2, 115, 0, 0), (13, 115, 0, 0), (3, 115, 0, 0), (1, 7, 111, 27), (2, 27, 0, 0), (13, 27, 0, 0), (3, 27, 0, 0), (1, 2, 23, 19), (2, 19, 0, 0), (13, 19, 0, 0), (3, 19, 0, 0), (1, 7, 115, 6), (2, 6, 0, 0), (13, 6, 0, 0), (3, 6, 0, 0), (1, 0, 49, 5), (1, 7, 118, 65), (2, 65, 0, 0), (13, 65, 0, 0), (3, 65, 0, 0), (1, 3, 23, 23), (2, 23, 0, 0), (13, 23, 0, 0), (3, 23, 0, 0), (1, 2, 27, 99), (22, 3, 32, 0), (1, 7, 121, 25), (2, 25, 0, 0), (13, 25, 0, 0), (3, 25, 0, 0), (1, 51, 38, 116), (2, 116, 0, 0), (13, 116, 0, 0), (3, 116, 0, 0), (1, 7, 125, 123), (5, 123, 0, 0), (2, 123, 0, 0), (3, 123, 0, 0), (1, 7, 129, 46), (2, 46, 0, 0), (13, 46, 0, 0), (3, 46, 0, 0), (4, 149, 0, 0), (3, 149, 0, 0), (1, 2, 122, 5), (1, 2, 125, 6), (1, 2, 128, 45), (2, 45, 0, 0), (13, 45, 0, 0), (3, 45, 0, 0), (1, 7, 133, 47), (2, 47, 0, 0), (13, 47, 0, 0), (3, 47, 0, 0), (1, 2, 73, 32), (2, 32, 0, 0), (13, 32, 0, 0), (3, 32, 0, 0), (1, 2, 49, 31), (5, 31, 0, 0), (2, 31, 0, 0), (3, 31, 0, 0), (1, 2, 42, 29), (2, 29, 0, 0), (13, 29, 0, 0), (3, 29, 0, 0), (1, 2, 46, 30), (2, 30, 0, 0), (13, 30, 0, 0), (3, 30, 0, 0), (1, 2, 57, 33), (5, 33, 0, 0), (2, 33, 0, 0), (3, 33, 0, 0), (1, 2, 132, 48), (5, 48, 0, 0), (2, 48, 0, 0), (3, 48, 0, 0), (1, 2, 170, 49), (5, 49, 0, 0), (2, 49, 0, 0), (3, 49, 0, 0), (1, 2, 182, 50), (4, 50, 0, 0), (3, 50, 0, 0), (1, 2, 116, 42), (2, 42, 0, 0), (13, 42, 0, 0), (3, 42, 0, 0), (1, 2, 96, 41), (2, 41, 0, 0), (13, 41, 0, 0), (3, 41, 0, 0), (1, 2, 99, 4), (2, 4, 0, 0), (13, 4, 0, 0), (3, 4, 0, 0), (1, 2, 102, 10), (1, 2, 105, 40), (2, 40, 0, 0), (13, 40, 0, 0), (3, 40, 0, 0), (1, 2, 38, 97), (1, 2, 108, 43), (5, 43, 0, 0), (2, 43, 0, 0), (3, 43, 0, 0), (1, 2, 112, 9), (1, 2, 173, 51), (5, 51, 0, 0), (2, 51, 0, 0), (3, 51, 0, 0), (1, 2, 158, 34), (2, 34, 0, 0), (13, 34, 0, 0), (3, 34, 0, 0), (1, 2, 179, 35), (5, 35, 0, 0), (2, 35, 0, 0), (3, 35, 0, 0), (22, 2, 185, 0), (1, 2, 79, 38), (5, 38, 0, 0), (2, 38, 0, 0), (3, 38, 0, 0), (1, 2, 82, 39), (5, 39, 0, 0), (2, 39, 0, 0), (3, 39, 0, 0), (1, 2, 176, 53), (5, 53, 0, 0), (2, 53, 0, 0), (3, 53, 0, 0), (1, 2, 136, 44), (5, 44, 0, 0), (2, 44, 0, 0), (3, 44, 0, 0), (1, 2, 139, 52), (5, 52, 0, 0), (2, 52, 0, 0), (3, 52, 0, 0), (1, 2, 142, 54), (5, 54, 0, 0), (2, 54, 0, 0), (3, 54, 0, 0), (1, 2, 193, 55), (5, 55, 0, 0), (2, 55, 0, 0), (3, 55, 0, 0), (1, 2, 196, 56), (5, 56, 0, 0), (2, 56, 0, 0), (3, 56, 0, 0), (1, 2, 145, 57), (5, 57, 0, 0), (2, 57, 0, 0), (3, 57, 0, 0), (1, 2, 148, 58), (5, 58, 0, 0), (2, 58, 0, 0), (3, 58, 0, 0), (1, 2, 199, 62), (5, 62, 0, 0), (2, 62, 0, 0), (3, 62, 0, 0), (1, 2, 154, 59), (5, 59, 0, 0), (2, 59, 0, 0), (3, 59, 0, 0), (1, 2, 151, 60), (5, 60, 0, 0), (2, 60, 0, 0), (3, 60, 0, 0), (1, 2, 161, 61), (5, 61, 0, 0), (2, 61, 0, 0), (3, 61, 0, 0), (1, 2, 164, 28), (2, 28, 0, 0), (13, 28, 0, 0), (3, 28, 0, 0), (1, 51, 43, 117), (2, 117, 0, 0), (13, 117, 0, 0), (3, 117, 0, 0), (1, 51, 47, 118), (2, 118, 0, 0), (13, 118, 0, 0), (3, 118, 0, 0), (1, 51, 52, 119), (2, 119, 0, 0), (13, 119, 0, 0), (3, 119, 0, 0), (1, 51, 56, 120)]
set_option maxRecDepth 100000 in
theorem wp_3 : wc_3.map wd = pick [true, true, true, true, true, false, true, true, true, true, false, true, true, true, true, false, true, true, true, true, true, true, true, true, true, true, true, true, true, true, true, true, true, true, true, true, true, true, true, true, true, true, true, true, true, true, true, true, true, true, true, true, true, true, true, true, true, true, true, true, true, true, true, true, true, true, true, true, true, true, true, true, true, true, true, true, true, true, true, true, true, true, true, true, true, true, true, false, true, true, true, true, true, true, true, true, true, true, true, true, true, true, true, true, true, true, true, true, true, true, true, true, true, true, true, true, true, true, true, true, true, true, true, true, true, true, true, true, true, true, true, true, true, true, true, true, true, true, true, true, true, true, true, true, true, true, true, true, true, true, true, true, true, true, true, true, true, true, true, true, true, true, true, true, true, true, true, true, true, true, true, true, true, true, true, true, true, true, true, true, true, true, true, true, true, true, true, true, true, true, true, true, true, true, true, true, true, true, true, true, true, true, true, true, true, true, true, true, true, true, true, true, true, true, true, true, true, true, true, true, true, true, true, true, true, true, true, true, true, true, true, true, true, true, true, true, true, true, true, true] tables_1_3 := rfl
def wc_4 : List (Nat × Nat × Nat × Nat) := [(2, 120, 0, 0), (13, 120, 0, 0), (3, 120, 0, 0), (1, 51, 60, 121), (2, 121, 0, 0), (13, 121, 0, 0), (3, 121, 0, 0), (1, 51, 64, 122), (2, 122, 0, 0), (13, 122, 0, 0), (3, 122, 0, 0), (1, 51, 68, 124), (2, 124, 0, 0), (13, 124, 0, 0), (3, 124, 0, 0), (1, 7, 136, 63), (2, 63, 0, 0), (13, 63, 0, 0), (3, 63, 0, 0), (1, 2, 203, 27), (1, 2, 209, 47), (1, 51, 72, 125), (2, 125, 0, 0), (13, 125, 0, 0), (3, 125, 0, 0), (1, 7, 139, 28), (1, 51, 77, 126), (2, 126, 0, 0), (13, 126, 0, 0), (3, 126, 0, 0), (1, 7, 142, 151), (4, 151, 0, 0), (3, 151, 0, 0), (1, 7, 145, 21), (2, 21, 0, 0), (13, 21, 0, 0), (3, 21, 0, 0), (1, 51, 81, 127), (2, 127, 0, 0), (13, 127, 0, 0), (3, 127, 0, 0), (1, 7, 149, 150), (4, 150, 0, 0), (3, 150, 0, 0), (1, 51, 85, 128), (2, 128, 0, 0), (13, 128, 0, 0), (3, 128, 0, 0), (1, 7, 152, 66), (2, 66, 0, 0), (13, 66, 0, 0), (3, 66, 0, 0), (1, 3, 38, 24), (2, 24, 0, 0), (13, 24, 0, 0), (3, 24, 0, 0), (1, 51, 89, 129), (2, 129, 0, 0), (13, 129, 0, 0), (3, 129, 0, 0), (1, 7, 156, 19), (1, 51, 93, 130), (2, 130, 0, 0), (13, 130, 0, 0), (3, 130, 0, 0), (1, 51, 97, 131), (2, 131, 0, 0), (13, 131, 0, 0), (3, 131, 0, 0), (1, 51, 101, 132), (2, 132, 0, 0), (13, 132, 0, 0), (3, 132, 0, 0), (1, 7, 159, 4), (1, 7, 162, 40), (1, 51, 105, 133), (2, 133, 0, 0), (13, 133, 0, 0), (3, 133, 0, 0), (1, 7, 165, 29), (1, 51, 109, 134), (2, 134, 0, 0), (13, 134, 0, 0), (3, 134, 0, 0), (1, 7, 168, 149), (1, 7, 171, 32), (1, 7, 174, 34), (1, 51, 113, 135), (2, 135, 0, 0), (13, 135, 0, 0), (3, 135, 0, 0), (1, 7, 177, 42), (1, 51, 117, 136), (2, 136, 0, 0), (13, 136, 0, 0), (3, 136, 0, 0), (1, 7, 180, 101), (2, 101, 0, 0), (13, 101, 0, 0), (3, 101, 0, 0), (1, 6, 26, 22), (2, 22, 0, 0), (13, 22, 0, 0), (3, 22, 0, 0), (1, 6, 30, 28), (1, 6, 33, 47), (1, 51, 122, 137), (2, 137, 0, 0), (13, 137, 0, 0), (3, 137, 0, 0), (1, 7, 184, 103), (2, 103, 0, 0), (13, 103, 0, 0), (3, 103, 0, 0), (1, 6, 41, 46), (1, 6, 45, 102), (5, 102, 0, 0), (2, 102, 0, 0), (3, 102, 0, 0), (1, 6, 37, 19), (1, 6, 49, 36), (2, 36, 0, 0), (13, 36, 0, 0), (3, 36, 0, 0), (1, 51, 127, 138), (2, 138, 0, 0), (13, 138, 0, 0), (3, 138, 0, 0), (1, 7, 187, 104), (2, 104, 0, 0), (13, 104, 0, 0), (3, 104, 0, 0), (1, 6, 53, 105), (5, 105, 0, 0), (2, 105, 0, 0), (3, 105, 0, 0), (1, 51, 131, 139), (2, 139, 0, 0), (13, 139, 0, 0), (3, 139, 0, 0), (1, 7, 191, 106), (2, 106, 0, 0), (13, 106, 0, 0), (3, 106, 0, 0), (1, 51, 135, 140), (2, 140, 0, 0), (13, 140, 0, 0), (3, 140, 0, 0), (1, 7, 194, 107), (2, 107, 0, 0), (13, 107, 0, 0), (3, 107, 0, 0), (1, 6, 56, 21), (1, 6, 60, 42), (1, 51, 139, 141), (2, 141, 0, 0), (13, 141, 0, 0), (3, 141, 0, 0), (1, 7, 197, 108), (2, 108, 0, 0), (13, 108, 0, 0), (3, 108, 0, 0), (1, 6, 63, 101), (1, 51, 143, 142), (2, 142, 0, 0), (13, 142, 0, 0), (3, 142, 0, 0), (1, 7, 200, 89), (2, 89, 0, 0), (13, 89, 0, 0), (3, 89, 0, 0), (1, 5, 77, 22), (1, 5, 81, 88), (5, 88, 0, 0), (2, 88, 0, 0), (3, 88, 0, 0), (1, 5, 67, 19), (1, 5, 74, 41), (1, 5, 84, 90), (5, 90, 0, 0), (2, 90, 0, 0), (3, 90, 0, 0), (1, 5, 113, 91), (5, 91, 0, 0), (2, 91, 0, 0), (3, 91, 0, 0), (1, 5, 121, 26), (2, 26, 0, 0), (13, 26, 0, 0), (3, 26, 0, 0), (1, 5, 125, 25), (1, 5, 117, 98), (1, 5, 87, 263), (1, 5, 96, 94), (5, 94, 0, 0), (2, 94, 0, 0), (3, 94, 0, 0), (1, 5, 143, 32), (1, 5, 146, 34), (1, 5, 100, 96), (5, 96, 0, 0), (2, 96, 0, 0), (3, 96, 0, 0), (11, 5, 162, 0), (1, 5, 61, 97), (1, 5, 104, 92), (5, 92, 0, 0), (2, 92, 0, 0), (3, 92, 0, 0), (1, 5, 129, 93), (4, 93, 0, 0), (3, 93, 0, 0), (1, 5, 132, 95), (5, 95, 0, 0), (2, 95, 0, 0), (3, 95, 0, 0), (1, 5, 155, 37), (2, 37, 0, 0), (13, 37, 0, 0), (3, 37, 0, 0), (1, 5, 159, 20), (1, 5, 136, 28), (1, 5, 139, 47), (1, 7, 203, 86), (2, 86, 0, 0), (13, 86, 0, 0), (3, 86, 0, 0), (1, 5, 51, 87), (5, 87, 0, 0), (2, 87, 0, 0), (3, 87, 0, 0), (1, 51, 147, 143), (2, 143, 0, 0), (13, 143, 0, 0), (3, 143, 0, 0), (1, 51, 151, 144), (2, 144, 0, 0), (13, 144, 0, 0), (3, 144, 0, 0)]
set_option maxRecDepth 100000 in
theorem wp_4 : wc_4.map wd = pick [true, true, true, true, true, true, true, true, true, true, true, true, true, true, true, true, true, true, true, true, true, true, true, true, true, true, true, true, true, true, true, true, true, true, true, true, true, true, true, true, true, true, true, true, true, true, true, true, true, true, true, true, true, true, true, true, true, true, true, true, true, true, true, true, true, true, true, true, true, true, true, true, true, true, true, true, true, true, true, true, true, true, true, true, true, true, true, true, true, true, true, true, true, true, true, true, true, true, true, true, true, true, true, true, true, true, true, true, true, true, true, true, true, true, true, true, true, true, true, true, true, true, true, true, true, true, true, true, true, true, true, true, true, true, true, true, true, true, true, true, true, true, true, true, true, true, true, true, true, true, true, true, true, true, true, true, true, true, true, true, true, true, true, true, true, true, true, true, true, true, true, true, true, true, true, true, true, false, true, true, true, true, true, true, true, true, true, true, true, true, true, true, true, true, true, true, true, true, true, true, true, true, true, true, true, true, true, true, true, true, true, true, true, true, true, true, true, true, true, true, true, true, true, true, true, true, true, true, true, true, true, true, true, true, true, true, true, true, true, true] tables_1_4 := rfl
def wc_5 : List (Nat × Nat × Nat × Nat) := [(1, 7, 212, 12), (2, 12, 0, 0), (13, 12, 0, 0), (3, 12, 0, 0), (1, 1, 48, 263), (1, 1, 54, 22), (1, 1, 58, 14), (5, 14, 0, 0), (2, 14, 0, 0), (3, 14, 0, 0), (1, 1, 86, 27), (1, 1, 90, 17), (5, 17, 0, 0), (2, 17, 0, 0), (3, 17, 0, 0), (11, 1, 120, 1), (11, 1, 122, 2), (11, 1, 124, 3), (11, 1, 126, 4), (1, 1, 98, 28), (1, 1, 64, 15), (5, 15, 0, 0), (2, 15, 0, 0), (3, 15, 0, 0), (1, 1, 101, 46), (1, 1, 105, 47), (1, 1, 109, 16), (5, 16, 0, 0), (2, 16, 0, 0), (3, 16, 0, 0), (1, 1, 113, 41), (1, 1, 74, 97), (1, 1, 116, 98), (1, 1, 67, 19), (1, 1, 71, 13), (5, 13, 0, 0), (2, 13, 0, 0), (3, 13, 0, 0), (1, 51, 155, 145), (2, 145, 0, 0), (13, 145, 0, 0), (3, 145, 0, 0), (1, 51, 159, 146), (2, 146, 0, 0), (13, 146, 0, 0), (3, 146, 0, 0), (1, 7, 215, 41), (22, 7, 218, 0), (23, 7, 223, 0), (33, 0, 0, 0), (36, 0, 0, 0), (1, 51, 163, 147), (2, 147, 0, 0), (13, 147, 0, 0), (3, 147, 0, 0), (1, 7, 241, 45), (1, 7, 244, 148), (5, 148, 0, 0), (2, 148, 0, 0), (3, 148, 0, 0), (1, 7, 256, 30), (6, 51, 10, 8), (7, 8, 0, 0), (1, 51, 12, 152), (2, 152, 0, 0), (3, 152, 0, 0), (20, 8, 3, 0), (0, 8, 9, 800), (0, 8, 74, 801), (0, 8, 85, 802), (0, 8, 82, 803), (0, 8, 145, 804), (0, 8, 217, 805), (0, 8, 220, 806), (0, 8, 162, 807), (0, 8, 186, 808), (0, 8, 199, 809), (0, 8, 13, 810), (0, 8, 17, 811), (0, 8, 20, 812), (0, 8, 23, 813), (0, 8, 26, 814), (0, 8, 29, 815), (0, 8, 32, 816), (0, 8, 35, 817), (0, 8, 38, 818), (0, 8, 41, 819), (0, 8, 44, 820), (0, 8, 223, 821), (0, 8, 238, 822), (0, 8, 241, 823), (0, 8, 244, 824), (0, 8, 47, 825), (0, 8, 50, 826), (0, 8, 53, 827), (0, 8, 56, 828), (0, 8, 59, 829), (0, 8, 62, 830), (0, 8, 65, 831), (0, 8, 68, 832), (0, 8, 71, 833), (0, 8, 391, 834), (0, 8, 409, 835), (0, 8, 428, 836), (0, 8, 431, 837), (0, 8, 425, 838), (0, 8, 422, 839), (0, 8, 434, 840), (9, 8, 0, 0), (9, 8, 1, 0), (9, 8, 2, 0), (9, 8, 3, 0), (9, 8, 4, 0), (9, 8, 5, 0), (9, 8, 6, 0), (9, 8, 7, 0), (9, 8, 8, 0), (9, 8, 9, 0), (9, 8, 10, 0), (9, 8, 11, 0), (9, 8, 12, 0), (9, 8, 13, 0), (9, 8, 14, 0), (9, 8, 15, 0), (9, 8, 16, 0), (9, 8, 17, 0), (9, 8, 18, 0), (9, 8, 19, 0), (9, 8, 20, 0), (9, 8, 21, 0), (9, 8, 22, 0), (9, 8, 23, 0), (9, 8, 24, 0), (9, 8, 25, 0), (9, 8, 26, 0), (9, 8, 27, 0), (9, 8, 28, 0), (9, 8, 29, 0), (9, 8, 30, 0), (9, 8, 31, 0), (9, 8, 32, 0), (9, 8, 33, 0), (9, 8, 34, 0), (9, 8, 35, 0), (9, 8, 36, 0), (9, 8, 37, 0), (9, 8, 38, 0), (9, 8, 39, 0), (9, 8, 40, 0), (1, 51, 17, 155), (2, 155, 0, 0), (13, 155, 0, 0), (3, 155, 0, 0), (1, 8, 78, 156), (5, 156, 0, 0), (2, 156, 0, 0), (3, 156, 0, 0), (1, 51, 22, 157), (2, 157, 0, 0), (13, 157, 0, 0), (3, 157, 0, 0), (1, 51, 27, 176), (2, 176, 0, 0), (13, 176, 0, 0), (3, 176, 0, 0), (1, 8, 211, 175), (5, 175, 0, 0), (2, 175, 0, 0), (3, 175, 0, 0), (1, 8, 114, 161), (5, 161, 0, 0), (2, 161, 0, 0), (3, 161, 0, 0), (1, 8, 88, 160), (5, 160, 0, 0), (2, 160, 0, 0), (3, 160, 0, 0), (1, 8, 168, 165), (5, 165, 0, 0), (2, 165, 0, 0), (3, 165, 0, 0), (1, 8, 133, 159), (5, 159, 0, 0), (2, 159, 0, 0), (3, 159, 0, 0), (1, 8, 137, 164), (5, 164, 0, 0), (2, 164, 0, 0), (3, 164, 0, 0), (1, 8, 117, 163), (5, 163, 0, 0), (2, 163, 0, 0), (3, 163, 0, 0), (11, 8, 106, 5), (11, 8, 108, 6), (1, 8, 110, 153), (4, 153, 0, 0), (3, 153, 0, 0)]
set_option maxRecDepth 100000 in
theorem wp_5 : wc_5.map wd = pick [true, true, true, true, true, true, true, true, true, true, true, true, true, true, true, true, true, true, true, true, true, true, true, true, true, true, true, true, true, true, true, true, true, true, true, true, true, true, true, true, true, true, true, true, true, true, true, true, true, true, true, true, true, true, true, true, true, true, true, true, true, true, true, true, true, true, true, true, true, true, true, true, true, true, true, true, true, true, true, true, true, true, true, true, true, true, true, true, true, true, true, true, true, true, true, true, true, true, true, true, true, true, true, true, true, true, true, true, true, false, true, false, true, false, true, false, true, false, true, false, true, false, true, false, true, false, true, false, true, false, true, false, true, false, true, false, true, false, true, false, true, false, true, false, true, false, true, false, true, false, true, false, true, false, true, false, true, false, true, false, true, false, true, false, true, false, true, false, true, false, true, false, true, false, true, false, true, false, true, false, true, false, true, false, true, false, true, false, true, false, false, true, true, true, true, true, true, true, true, true, true, true, true, true, true, true, true, true, true, true, true, true, true, true, true, true, true, true, true, true, true, true, true, true, true, true, true, true, true, true, true, true, true, true, true, true, true, true, true, true] tables_1_5 := rfl
def wc_6 : List (Nat × Nat × Nat × Nat) := [(1, 8, 120, 162), (4, 162, 0, 0), (3, 162, 0, 0), (24, 8, 124, 0), (25, 8, 129, 0), (1, 8, 202, 168), (5, 168, 0, 0), (2, 168, 0, 0), (3, 168, 0, 0), (1, 8, 151, 158), (5, 158, 0, 0), (2, 158, 0, 0), (3, 158, 0, 0), (1, 8, 165, 167), (5, 167, 0, 0), (2, 167, 0, 0), (3, 167, 0, 0), (1, 8, 148, 166), (5, 166, 0, 0), (2, 166, 0, 0), (3, 166, 0, 0), (11, 8, 141, 7), (11, 8, 143, 8), (10, 8, 155, 0), (22, 8, 156, 0), (1, 8, 205, 173), (5, 173, 0, 0), (2, 173, 0, 0), (3, 173, 0, 0), (1, 8, 189, 171), (5, 171, 0, 0), (2, 171, 0, 0), (3, 171, 0, 0), (1, 8, 177, 154), (4, 154, 0, 0), (3, 154, 0, 0), (1, 8, 192, 172), (5, 172, 0, 0), (2, 172, 0, 0), (3, 172, 0, 0), (10, 8, 181, 1), (1, 8, 182, 169), (4, 169, 0, 0), (3, 169, 0, 0), (11, 8, 171, 9), (11, 8, 173, 10), (11, 8, 175, 4), (1, 8, 195, 170), (4, 170, 0, 0), (3, 170, 0, 0), (1, 8, 208, 174), (5, 174, 0, 0), (2, 174, 0, 0), (3, 174, 0, 0), (1, 8, 214, 177), (5, 177, 0, 0), (2, 177, 0, 0), (3, 177, 0, 0), (1, 51, 32, 179), (2, 179, 0, 0), (13, 179, 0, 0), (3, 179, 0, 0), (1, 8, 226, 178), (5, 178, 0, 0), (2, 178, 0, 0), (3, 178, 0, 0), (11, 8, 229, 11), (1, 51, 88, 183), (2, 183, 0, 0), (13, 183, 0, 0), (3, 183, 0, 0), (1, 8, 235, 181), (5, 181, 0, 0), (2, 181, 0, 0), (3, 181, 0, 0), (1, 51, 42, 216), (2, 216, 0, 0), (13, 216, 0, 0), (3, 216, 0, 0), (1, 8, 349, 215), (5, 215, 0, 0), (2, 215, 0, 0), (3, 215, 0, 0), (1, 8, 338, 213), (5, 213, 0, 0), (2, 213, 0, 0), (3, 213, 0, 0), (1, 8, 309, 184), (5, 184, 0, 0), (2, 184, 0, 0), (3, 184, 0, 0), (1, 8, 312, 207), (5, 207, 0, 0), (2, 207, 0, 0), (3, 207, 0, 0), (11, 8, 315, 12), (1, 8, 342, 182), (5, 182, 0, 0), (2, 182, 0, 0), (3, 182, 0, 0), (1, 8, 231, 180), (5, 180, 0, 0), (2, 180, 0, 0), (3, 180, 0, 0), (1, 8, 345, 214), (5, 214, 0, 0), (2, 214, 0, 0), (3, 214, 0, 0), (1, 8, 317, 186), (5, 186, 0, 0), (2, 186, 0, 0), (3, 186, 0, 0), (1, 8, 320, 204), (5, 204, 0, 0), (2, 204, 0, 0), (3, 204, 0, 0), (1, 8, 281, 193), (5, 193, 0, 0), (2, 193, 0, 0), (3, 193, 0, 0), (1, 8, 261, 192), (5, 192, 0, 0), (2, 192, 0, 0), (3, 192, 0, 0), (1, 8, 258, 191), (5, 191, 0, 0), (2, 191, 0, 0), (3, 191, 0, 0), (1, 8, 251, 189), (4, 189, 0, 0), (3, 189, 0, 0), (1, 8, 255, 190), (5, 190, 0, 0), (2, 190, 0, 0), (3, 190, 0, 0), (1, 8, 284, 203), (5, 203, 0, 0), (2, 203, 0, 0), (3, 203, 0, 0), (1, 8, 275, 199), (5, 199, 0, 0), (2, 199, 0, 0), (3, 199, 0, 0), (11, 8, 267, 13), (1, 8, 269, 197), (5, 197, 0, 0), (2, 197, 0, 0), (3, 197, 0, 0), (1, 8, 272, 198), (5, 198, 0, 0), (2, 198, 0, 0), (3, 198, 0, 0), (1, 8, 287, 195), (5, 195, 0, 0), (2, 195, 0, 0), (3, 195, 0, 0), (1, 8, 290, 194), (5, 194, 0, 0), (2, 194, 0, 0), (3, 194, 0, 0), (1, 8, 248, 187), (5, 187, 0, 0), (2, 187, 0, 0), (3, 187, 0, 0), (1, 8, 264, 188), (5, 188, 0, 0), (2, 188, 0, 0), (3, 188, 0, 0), (1, 8, 293, 202), (5, 202, 0, 0), (2, 202, 0, 0), (3, 202, 0, 0), (1, 8, 278, 200), (5, 200, 0, 0), (2, 200, 0, 0), (3, 200, 0, 0), (1, 8, 296, 201), (5, 201, 0, 0), (2, 201, 0, 0), (3, 201, 0, 0), (1, 8, 323, 205), (5, 205, 0, 0), (2, 205, 0, 0), (3, 205, 0, 0), (1, 8, 326, 209), (5, 209, 0, 0), (2, 209, 0, 0), (3, 209, 0, 0), (1, 8, 306, 208), (5, 208, 0, 0), (2, 208, 0, 0), (3, 208, 0, 0), (1, 8, 299, 206), (5, 206, 0, 0), (2, 206, 0, 0), (3, 206, 0, 0), (1, 8, 303, 196), (5, 196, 0, 0), (2, 196, 0, 0), (3, 196, 0, 0), (1, 8, 329, 210), (5, 210, 0, 0), (2, 210, 0, 0), (3, 210, 0, 0), (1, 8, 332, 211), (5, 211, 0, 0), (2, 211, 0, 0), (3, 211, 0, 0), (1, 8, 335, 212), (5, 212, 0, 0), (2, 212, 0, 0), (3, 212, 0, 0), (1, 51, 46, 217), (2, 217, 0, 0), (13, 217, 0, 0), (3, 217, 0, 0), (1, 51, 51, 218), (2, 218, 0, 0), (13, 218, 0, 0), (3, 218, 0, 0), (1, 51, 55, 219), (2, 219, 0, 0), (13, 219, 0, 0), (3, 219, 0, 0), (1, 51, 59, 220), (2, 220, 0, 0), (13, 220, 0, 0), (3, 220, 0, 0), (1, 51, 63, 221), (2, 221, 0, 0), (13, 221, 0, 0), (3, 221, 0, 0)]
set_option maxRecDepth 100000 in
theorem wp_6 : wc_6.map wd = pick [true, true, true, false, false, false, false, false, false, false, false, true, true, true, true, true, true, true, true, true, true, true, true, true, true, true, true, true, true, true, true, true, true, true, true, true, true, true, true, true, true, true, true, true, true, true, true, true, true, true, true, true, true, true, true, true, true, true, true, true, true, true, true, true, true, true, true, true, true, true, true, true, true, true, true, true, true, true, true, true, true, true, true, true, true, true, true, true, true, true, true, true, true, true, true, true, true, true, true, true, true, true, true, true, true, true, true, true, true, true, true, true, true, true, true, true, true, true, true, true, true, true, true, true, true, true, true, true, true, true, true, true, true, true, true, true, true, true, true, true, true, true, true, true, true, true, true, true, true, true, true, true, true, true, true, true, true, true, true, true, true, true, true, true, true, true, true, true, true, true, true, true, true, true, true, true, true, true, true, true, true, true, true, true, true, true, true, true, true, true, true, true, true, true, true, true, true, true, true, true, true, true, true, true, true, true, true, true, true, true, true, true, true, true, true, true, true, true, true, true, true, true, true, true, true, true, true, true, true, true, true, true, true, true, true, true, true, true, true, true] tables_1_6 := rfl
def wc_7 : List (Nat × Nat × Nat × Nat) := [(1, 51, 67, 222), (2, 222, 0, 0), (13, 222, 0, 0), (3, 222, 0, 0), (1, 51, 37, 223), (2, 223, 0, 0), (13, 223, 0, 0), (3, 223, 0, 0), (1, 51, 71, 224), (2, 224, 0, 0), (13, 224, 0, 0), (3, 224, 0, 0), (11, 8, 352, 14), (1, 8, 354, 185), (5, 185, 0, 0), (2, 185, 0, 0), (3, 185, 0, 0), (1, 51, 76, 225), (2, 225, 0, 0), (13, 225, 0, 0), (3, 225, 0, 0), (1, 51, 80, 226), (2, 226, 0, 0), (13, 226, 0, 0), (3, 226, 0, 0), (11, 8, 357, 15), (11, 8, 359, 16), (1, 51, 84, 227), (2, 227, 0, 0), (13, 227, 0, 0), (3, 227, 0, 0), (11, 8, 361, 17), (1, 51, 92, 228), (2, 228, 0, 0), (13, 228, 0, 0), (3, 228, 0, 0), (1, 51, 96, 229), (2, 229, 0, 0), (13, 229, 0, 0), (3, 229, 0, 0), (1, 51, 100, 230), (2, 230, 0, 0), (13, 230, 0, 0), (3, 230, 0, 0), (1, 51, 104, 231), (2, 231, 0, 0), (13, 231, 0, 0), (3, 231, 0, 0), (1, 51, 108, 232), (2, 232, 0, 0), (13, 232, 0, 0), (3, 232, 0, 0), (1, 51, 112, 233), (2, 233, 0, 0), (13, 233, 0, 0), (3, 233, 0, 0), (11, 8, 363, 18), (1, 51, 116, 234), (2, 234, 0, 0), (13, 234, 0, 0), (3, 234, 0, 0), (1, 51, 121, 238), (2, 238, 0, 0), (13, 238, 0, 0), (3, 238, 0, 0), (1, 8, 371, 237), (5, 237, 0, 0), (2, 237, 0, 0), (3, 237, 0, 0), (1, 8, 365, 235), (5, 235, 0, 0), (2, 235, 0, 0), (3, 235, 0, 0), (1, 8, 368, 236), (5, 236, 0, 0), (2, 236, 0, 0), (3, 236, 0, 0), (1, 51, 126, 242), (2, 242, 0, 0), (13, 242, 0, 0), (3, 242, 0, 0), (11, 8, 378, 19), (1, 8, 374, 239), (5, 239, 0, 0), (2, 239, 0, 0), (3, 239, 0, 0), (1, 8, 380, 241), (5, 241, 0, 0), (2, 241, 0, 0), (3, 241, 0, 0), (1, 8, 384, 240), (5, 240, 0, 0), (2, 240, 0, 0), (3, 240, 0, 0), (1, 51, 130, 243), (2, 243, 0, 0), (13, 243, 0, 0), (3, 243, 0, 0), (1, 51, 134, 244), (2, 244, 0, 0), (13, 244, 0, 0), (3, 244, 0, 0), (1, 51, 138, 245), (2, 245, 0, 0), (13, 245, 0, 0), (3, 245, 0, 0), (1, 51, 142, 246), (2, 246, 0, 0), (13, 246, 0, 0), (3, 246, 0, 0), (1, 51, 146, 253), (2, 253, 0, 0), (13, 253, 0, 0), (3, 253, 0, 0), (1, 8, 406, 251), (5, 251, 0, 0), (2, 251, 0, 0), (3, 251, 0, 0), (1, 8, 388, 249), (5, 249, 0, 0), (2, 249, 0, 0), (3, 249, 0, 0), (1, 8, 394, 247), (5, 247, 0, 0), (2, 247, 0, 0), (3, 247, 0, 0), (1, 8, 397, 250), (5, 250, 0, 0), (2, 250, 0, 0), (3, 250, 0, 0), (1, 8, 399, 252), (5, 252, 0, 0), (2, 252, 0, 0), (3, 252, 0, 0), (1, 8, 402, 248), (5, 248, 0, 0), (2, 248, 0, 0), (3, 248, 0, 0), (1, 51, 150, 254), (2, 254, 0, 0), (13, 254, 0, 0), (3, 254, 0, 0), (1, 51, 154, 259), (2, 259, 0, 0), (13, 259, 0, 0), (3, 259, 0, 0), (11, 8, 444, 20), (1, 8, 446, 258), (5, 258, 0, 0), (2, 258, 0, 0), (3, 258, 0, 0), (1, 8, 419, 255), (5, 255, 0, 0), (2, 255, 0, 0), (3, 255, 0, 0), (11, 8, 412, 1), (11, 8, 414, 2), (11, 8, 416, 3), (10, 8, 418, 3), (1, 8, 437, 256), (5, 256, 0, 0), (2, 256, 0, 0), (3, 256, 0, 0), (1, 8, 440, 257), (5, 257, 0, 0), (2, 257, 0, 0), (3, 257, 0, 0), (1, 51, 158, 260), (2, 260, 0, 0), (13, 260, 0, 0), (3, 260, 0, 0), (1, 51, 162, 261), (2, 261, 0, 0), (13, 261, 0, 0), (3, 261, 0, 0), (1, 51, 166, 262), (2, 262, 0, 0), (13, 262, 0, 0), (3, 262, 0, 0), (40, 0, 0, 0), (40, 1, 0, 0)]
set_option maxRecDepth 100000 in
theorem wp_7 : wc_7.map wd = pick [true, true, true, true, true, true, true, true, true, true, true, true, true, true, true, true, true, true, true, true, true, true, true, true, true, true, true, true, true, true, true, true, true, true, true, true, true, true, true, true, true, true, true, true, true, true, true, true, true, true, true, true, true, true, true, true, true, true, true, true, true, true, true, true, true, true, true, true, true, true, true, true, true, true, true, true, true, true, true, true, true, true, true, true, true, true, true, true, true, true, true, true, true, true, true, true, true, true, true, true, true, true, true, true, true, true, true, true, true, true, true, true, true, true, true, true, true, true, true, true, true, true, true, true, true, true, true, true, true, true, true, true, true, true, true, true, true, true, true, true, true, true, true, true, true, true, true, true, true, true, true, true, true, true, true, true, true, true, true, true, true, true, true, true, true, true, true, true, true, true, true, true, true, true, true, true, true, true, true, true, true] tables_1_7 := rfl
def wcs : List (Nat × Nat × Nat × Nat) := wc_1 ++ (wc_2 ++ (wc_3 ++ (wc_4 ++ (wc_5 ++ (wc_6 ++ (wc_7))))))
theorem wcs_in : ∀ q ∈ wcs, wd q ∈ tables_1 := by
  intro q hq
  simp only [wcs, List.mem_append] at hq
  simp only [tables_1, List.mem_append]
  rcases hq with h | h | h | h | h | h | h
  · exact Or.inl (pick_in _ _ _ (wp_1 ▸ List.mem_map_of_mem h))
  · exact Or.inr (Or.inl (pick_in _ _ _ (wp_2 ▸ List.mem_map_of_mem h)))
  · exact Or.inr (Or.inr (Or.inl (pick_in _ _ _ (wp_3 ▸ List.mem_map_of_mem h))))
  · exact Or.inr (Or.inr (Or.inr (Or.inl (pick_in _ _ _ (wp_4 ▸ List.mem_map_of_mem h)))))
  · exact Or.inr (Or.inr (Or.inr (Or.inr (Or.inl (pick_in _ _ _ (wp_5 ▸ List.mem_map_of_mem h))))))
  · exact Or.inr (Or.inr (Or.inr (Or.inr (Or.inr (Or.inl (pick_in _ _ _ (wp_6 ▸ List.mem_map_of_mem h)))))))
  · exact Or.inr (Or.inr (Or.inr (Or.inr (Or.inr (Or.inr (pick_in _ _ _ (wp_7 ▸ List.mem_map_of_mem h)))))))
def pvs : List Nat := [13, 14, 15, 16, 17, 31, 33, 35, 38, 39, 43, 44, 48, 49, 51, 52, 53, 54, 55, 56, 57, 58, 59, 60, 61, 62, 70, 71, 72, 73, 74, 75, 76, 77, 78, 79, 80, 81, 82, 87, 88, 90, 91, 92, 94, 95, 96, 102, 105, 111, 123, 148, 156, 158, 159, 160, 161, 163, 164, 165, 166, 167, 168, 171, 172, 173, 174, 175, 177, 178, 180, 181, 182, 184, 185, 186, 187, 188, 190, 191, 192, 193, 194, 195, 196, 197, 198, 199, 200, 201, 202, 203, 204, 205, 206, 207, 208, 209, 210, 211, 212, 213, 214, 215, 235, 236, 237, 239, 240, 241, 247, 248, 249, 250, 251, 252, 255, 256, 257, 258]
end
section
def elem4 (a : Nat × Nat × Nat × Nat) : List (Nat × Nat × Nat × Nat) → Bool
  | [] => false
  | b :: l => cond (Nat.beq a.1 b.1) (cond (Nat.beq a.2.1 b.2.1) (cond (Nat.beq a.2.2.1 b.2.2.1) (cond (Nat.beq a.2.2.2 b.2.2.2) true (elem4 a l)) (elem4 a l)) (elem4 a l)) (elem4 a l)
theorem elem4_in : ∀ (l : List (Nat × Nat × Nat × Nat)) (a : Nat × Nat × Nat × Nat), elem4 a l = true → a ∈ l
  | [], a, h => by simp [elem4] at h
  | b :: l, a, h => by
    by_cases e : a = b
    · exact List.mem_cons.mpr (Or.inl e)
    · refine List.mem_cons.mpr (Or.inr (elem4_in l a ?_))
      obtain ⟨a1, a2, a3, a4⟩ := a
      obtain ⟨b1, b2, b3, b4⟩ := b
      unfold elem4 at h
      dsimp only at h
      cases h1 : Nat.beq a1 b1 <;> cases h2 : Nat.beq a2 b2 <;> cases h3 : Nat.beq a3 b3 <;> cases h4 : Nat.beq a4 b4 <;> simp only [h1, h2, h3, h4, cond_true, cond_false] at h <;> first | exact h | skip
      have e1 := Nat.eq_of_beq_eq_true h1
      have e2 := Nat.eq_of_beq_eq_true h2
      have e3 := Nat.eq_of_beq_eq_true h3
      have e4 := Nat.eq_of_beq_eq_true h4
      subst e1; subst e2; subst e3; subst e4
      exact absurd rfl e
def allL {α : Type} (f : α → Bool) : List α → Bool
  | [] => true
  | a :: l => cond (f a) (allL f l) false
theorem allL_in {α : Type} {f : α → Bool} : ∀ {l : List α}, allL f l = true → ∀ a ∈ l, f a = true
  | [], _, a, h => absurd h List.not_mem_nil
  | b :: l, h, a, ha => by
    unfold allL at h
    cases hb : f b <;> simp only [hb, cond_true, cond_false] at h
    · exact absurd h (by decide)
    · rcases List.mem_cons.mp ha with e | e
      · rw [e]; exact hb
      · exact allL_in h a e
/-- a private method of a class that the tables say can be made, by its rows of tables_1 -/
def lw_okq (q : MethodName × Nat) : Prop := (q.1.cls ≠ "java/lang/invoke/MethodHandle" ∧ q.1.cls ≠ "java/lang/invoke/VarHandle") ∧ Cond.instantiable q.1.cls q.2 ∈ tables_1 ∧ Cond.privateMethod q.1 ∈ tables_1 ∧ Cond.instanceMethod q.1 ∈ tables_1
def lw_privs : List (MethodName × Nat) := pvs.map fun m => (mN m, nF (mCls m))
def lw_tbl : List Cond := k2_sels lw_privs ++ tables_1
theorem cN_plain : ∀ a, a < 60 → cN a ≠ "java/lang/invoke/MethodHandle" ∧ cN a ≠ "java/lang/invoke/VarHandle" := by decide +kernel
theorem mOwn_all : allL (fun m => Nat.blt (mOwn m) 60) (List.range 264) = true := by decide +kernel
theorem pvs_all : allL (fun m => cond (Nat.beq (mOwn m) (mCls m)) (cond (Nat.blt (mOwn m) 9) (cond (elem4 (7, mCls m, 0, 0) wcs) (cond (elem4 (5, m, 0, 0) wcs) (elem4 (2, m, 0, 0) wcs) false) false) false) false) pvs = true := by decide +kernel
theorem wd_7 (c : Nat) : wd (7, c, 0, 0) = Cond.instantiable (cN c) (nF c) := rfl
theorem wd_5 (m : Nat) : wd (5, m, 0, 0) = Cond.privateMethod (mN m) := rfl
theorem wd_2 (m : Nat) : wd (2, m, 0, 0) = Cond.instanceMethod (mN m) := rfl
theorem band5 {a b c d e : Bool} (h : cond a (cond b (cond c (cond d e false) false) false) false = true) : a = true ∧ b = true ∧ c = true ∧ d = true ∧ e = true := by
  cases a <;> cases b <;> cases c <;> cases d <;> cases e <;> first | exact ⟨rfl, rfl, rfl, rfl, rfl⟩ | exact absurd h (by decide)
theorem lw_okq_of {m : Nat} (h1 : mOwn m = mCls m) (l1 : mOwn m < 60) (h3 : Cond.instantiable (cN (mCls m)) (nF (mCls m)) ∈ tables_1) (h4 : Cond.privateMethod (mN m) ∈ tables_1) (h5 : Cond.instanceMethod (mN m) ∈ tables_1) : lw_okq (mN m, nF (mCls m)) :=
  ⟨cN_plain _ l1, by rw [← h1] at h3; rw [← h1]; exact h3, h4, h5⟩
theorem lw_privs_ok : ∀ q ∈ lw_privs, lw_okq q := by
  intro q hq
  obtain ⟨m, hm, rfl⟩ := List.mem_map.mp hq
  have h := allL_in pvs_all m hm
  obtain ⟨h1, h2, h3, h4, h5⟩ := band5 h
  have z : mOwn m + 1 ≤ 9 := Nat.le_of_ble_eq_true h2
  have k3 := wcs_in (7, mCls m, 0, 0) (elem4_in _ _ h3)
  have k4 := wcs_in (5, m, 0, 0) (elem4_in _ _ h4)
  have k5 := wcs_in (2, m, 0, 0) (elem4_in _ _ h5)
  rw [wd_7] at k3
  rw [wd_5] at k4
  rw [wd_2] at k5
  exact lw_okq_of (Nat.eq_of_beq_eq_true h1) (by omega) k3 k4 k5
/-- the words that every method is given: all but those of the private methods, which have given their 'selects' -/
def wcg : List (Nat × Nat × Nat × Nat) := wcs.filter fun q => !(Nat.beq q.1 5)
def gw : List Cond := k2_sels lw_privs ++ wcg.map wd
theorem gw_good : gw.all goodWord = true := by decide +kernel
theorem gw_in : ∀ w ∈ gw, w ∈ lw_tbl := by
  intro w h
  rcases List.mem_append.mp h with h | h
  · exact List.mem_append_left _ h
  · obtain ⟨q, hq, e⟩ := List.mem_map.mp h
    subst e
    exact List.mem_append_right _ (wcs_in q (List.mem_filter.mp hq).1)
theorem gw_of {q : Nat × Nat × Nat × Nat} (h : elem4 q wcs = true) (h5 : Nat.beq q.1 5 = false) : wd q ∈ gw :=
  List.mem_append_right _ (List.mem_map_of_mem (List.mem_filter.mpr ⟨elem4_in _ _ h, by rw [h5]; rfl⟩))
theorem gw_sel {m : Nat} (h : m ∈ pvs) : Cond.selects (cN (mOwn m)) (mN m) (mN m) ∈ gw :=
  List.mem_append_left _ (List.mem_map_of_mem (f := fun q : MethodName × Nat => Cond.selects q.1.cls q.1 q.1) (List.mem_map_of_mem (f := fun m => (mN m, nF (mCls m))) h))
theorem gw_GoodIn : GoodIn gw gw := fun w h => ⟨h, good_of_word (List.all_eq_true.mp gw_good w h)⟩
theorem wd_0 (a i n : Nat) : wd (0, a, i, n) = Cond.fieldLink (cN a) i (nthF (ffs (n / 100)) (n % 100)).1 (nthF (ffs (n / 100)) (n % 100)).2.1 (nthF (ffs (n / 100)) (n % 100)).2.2.1 := rfl
theorem wd_1 (a i m : Nat) : wd (1, a, i, m) = Cond.methodLink (cN a) i (mN m) := rfl
theorem wd_3 (m : Nat) : wd (3, m, 0, 0) = Cond.code (mN m) (mCode m) (mMaxL m) (mRetT m) := rfl
theorem wd_4 (m : Nat) : wd (4, m, 0, 0) = Cond.static (mN m) := rfl
theorem wd_6 (a i c : Nat) : wd (6, a, i, c) = Cond.classLink (cN a) i (cN c) := rfl
theorem wd_8 (a : Nat) : wd (8, a, 0, 0) = Cond.initialized (cN a) := rfl
theorem wd_9 (c f : Nat) : wd (9, c, f, 0) = u_lay (cN c) (cTb c) f := rfl
theorem wd_10 (a i j : Nat) : wd (10, a, i, j) = Cond.constant (cN a) i (Int32.ofInt (kCon j)) := rfl
theorem wd_11 (a i j : Nat) : wd (11, a, i, j) = Cond.constantLong (cN a) i (Int64.ofInt (kConL j)) := rfl
theorem wd_12 (j : Nat) : wd (12, j, 0, 0) = Cond.arrayClass (aT j) := rfl
theorem wd_13 (m : Nat) : wd (13, m, 0, 0) = Cond.selects (cN (mOwn m)) (mN m) (mN m) := rfl
theorem wd_20 (a i : Nat) : wd (20, a, i, 0) = Cond.methodLink (cN a) i objectInit := rfl
theorem wd_21 (a i : Nat) : wd (21, a, i, 0) = Cond.methodLink (cN a) i arraycopyName := rfl
theorem wd_22 (a i : Nat) : wd (22, a, i, 0) = Cond.methodLink (cN a) i Lib.Math.min.name := rfl
theorem wd_23 (a i : Nat) : wd (23, a, i, 0) = Cond.methodLink (cN a) i Lib.Math.max.name := rfl
theorem wd_24 (a i : Nat) : wd (24, a, i, 0) = Cond.methodLink (cN a) i ⟨"java/lang/String", "length", "()I"⟩ := rfl
theorem wd_25 (a i : Nat) : wd (25, a, i, 0) = Cond.methodLink (cN a) i ⟨"java/lang/String", "charAt", "(I)C"⟩ := rfl
end
section
/-! THE SMALL MACHINE: values, store, one step, runs with fuel; 'cod' and the other tables stand ahead. -/
abbrev MV : Type := Int ⊕ (Int ⊕ ((Nat × Nat) ⊕ Unit))
abbrev vI (x : Int) : MV := .inl x
abbrev vJ (x : Int) : MV := .inr (.inl x)
abbrev vR (k i : Nat) : MV := .inr (.inr (.inl (k, i)))
abbrev vX : MV := .inr (.inr (.inr ()))
abbrev Sto : Type := Nat → Nat → Nat → Int
/-- cells made so far; fields of references that are not put yet; what stands in the cells -/
abbrev MS : Type := Nat × List (Nat × Nat × Nat) × Sto
abbrev Out : Type := Option MV × MS
def w32 (x : Int) : Int := (x + 2147483648) % 4294967296 - 2147483648
def w64 (x : Int) : Int := (x + 9223372036854775808) % 18446744073709551616 - 9223372036854775808
def w8 (x : Int) : Int := (x + 128) % 256 - 128
def bAnd (a b : Int) : Int := (Int32.ofInt a &&& Int32.ofInt b).toInt
def bOr (a b : Int) : Int := (Int32.ofInt a ||| Int32.ofInt b).toInt
def bXor (a b : Int) : Int := (Int32.ofInt a ^^^ Int32.ofInt b).toInt
def jOr (a b : Int) : Int := (Int64.ofInt a ||| Int64.ofInt b).toInt
def shl32 (a b : Int) : Int := (Int32.ofInt a <<< (Int32.ofInt b &&& 31)).toInt
def shr32 (a b : Int) : Int := (Int32.ofInt a >>> (Int32.ofInt b &&& 31)).toInt
def shl64 (a b : Int) : Int := (Int64.ofInt a <<< ((Int32.ofInt b).toInt64 &&& 63)).toInt
def shr64 (a b : Int) : Int := (Int64.ofInt a >>> ((Int32.ofInt b).toInt64 &&& 63)).toInt
def ushr64 (a b : Int) : Int := ((Int64.ofInt a).toUInt64 >>> ((Int32.ofInt b).toInt64.toUInt64 &&& Int64.toUInt64 63)).toInt64.toInt
def nth {α : Type} : List α → Nat → Option α
  | [], _ => none
  | a :: _, 0 => some a
  | _ :: l, n + 1 => nth l n
def setn {α : Type} : List α → Nat → α → List α
  | [], _, _ => []
  | _ :: l, 0, v => v :: l
  | a :: l, n + 1, v => a :: setn l n v
def isJ : MV → Bool
  | .inr (.inl _) => true
  | _ => false
/-- a long ahead of a place that is written is no value any more -/
def clr (L : List MV) : Nat → List MV
  | 0 => L
  | i + 1 => match nth L i with
    | some v => cond (isJ v) (setn L i vX) L
    | none => L
def sup (σ : Sto) (k i j : Nat) (v : Int) : Sto := fun k' i' j' => if k' = k ∧ i' = i ∧ j' = j then v else σ k' i' j'
def zro (σ : Sto) (k i : Nat) : Sto := fun k' i' j' => if k' = k ∧ i' = i then 0 else σ k' i' j'
def cpy (σ : Sto) (k i sp k2 i2 dp n : Nat) : Sto := fun k' i' j' => if k' = k2 ∧ i' = i2 ∧ dp ≤ j' ∧ j' < dp + n then σ k i (sp + (j' - dp)) else σ k' i' j'
def elemN (a : Nat) : List Nat → Bool
  | [] => false
  | b :: l => cond (Nat.beq a b) true (elemN a l)
def elem3 (a : Nat × Nat × Nat) : List (Nat × Nat × Nat) → Bool
  | [] => false
  | b :: l => cond (Nat.beq a.1 b.1) (cond (Nat.beq a.2.1 b.2.1) (cond (Nat.beq a.2.2 b.2.2) true (elem3 a l)) (elem3 a l)) (elem3 a l)
def rem3 (a : Nat × Nat × Nat) : List (Nat × Nat × Nat) → List (Nat × Nat × Nat)
  | [] => []
  | b :: l => cond (Nat.beq a.1 b.1) (cond (Nat.beq a.2.1 b.2.1) (cond (Nat.beq a.2.2 b.2.2) (rem3 a l) (b :: rem3 a l)) (b :: rem3 a l)) (b :: rem3 a l)
/-- length of a row: the script's is a number of its own -/
def kLenN (N k : Nat) : Int := cond (Nat.beq k 999) (N : Int) (kLenZ k)
def wordsOf : List MV → Nat
  | [] => 0
  | .inr (.inl _) :: l => wordsOf l + 2
  | .inl _ :: l => wordsOf l + 1
  | .inr (.inr _) :: l => wordsOf l + 1
abbrev KT (β : Type) : Type := Nat → List MV → List MV → MS → β
section XS
variable {β : Type}
def x_iload (i pc : Nat) (L st : List MV) (S : MS) (K : KT β) (z : β) : β := match nth L i with
  | some (.inl x) => K (pc + 1) L (vI x :: st) S
  | _ => z
def x_lload (i pc : Nat) (L st : List MV) (S : MS) (K : KT β) (z : β) : β := match nth L i with
  | some (.inr (.inl x)) => K (pc + 1) L (vJ x :: st) S
  | _ => z
def x_aload (i pc : Nat) (L st : List MV) (S : MS) (K : KT β) (z : β) : β := match nth L i with
  | some (.inr (.inr (.inl q))) => K (pc + 1) L (.inr (.inr (.inl q)) :: st) S
  | _ => z
def x_istore (i pc : Nat) (L st : List MV) (S : MS) (K : KT β) (z : β) : β := match st with
  | .inl x :: st => K (pc + 1) (setn L i (vI x)) st S
  | _ => z
def x_astore (i pc : Nat) (L st : List MV) (S : MS) (K : KT β) (z : β) : β := match st with
  | .inr (.inr (.inl q)) :: st => K (pc + 1) (setn L i (.inr (.inr (.inl q)))) st S
  | _ => z
def x_lstore (i pc : Nat) (L st : List MV) (S : MS) (K : KT β) (z : β) : β := match st with
  | .inr (.inl x) :: st => K (pc + 1) (setn (setn (clr L i) i (vJ x)) (i + 1) vX) st S
  | _ => z
def x_iinc (i : Nat) (c : Int) (pc : Nat) (L st : List MV) (S : MS) (K : KT β) (z : β) : β := match nth L i with
  | some (.inl x) => K (pc + 1) (setn L i (vI (w32 (x + c)))) st S
  | _ => z
def x_iop (f : Int → Int → Int) (pc : Nat) (L st : List MV) (S : MS) (K : KT β) (z : β) : β := match st with
  | .inl b :: .inl a :: st => K (pc + 1) L (vI (f a b) :: st) S
  | _ => z
def x_iopc (f : Int → Int → Int) (pc : Nat) (L st : List MV) (S : MS) (K : KT β) (z : β) : β := match st with
  | .inl b :: .inl a :: st => cond (Nat.ble (wordsOf st) 8) (K (pc + 1) L (vI (f a b) :: st) S) z
  | _ => z
def x_idv (f : Int → Int → Int) (pc : Nat) (L st : List MV) (S : MS) (K : KT β) (z : β) : β := match st with
  | .inl b :: .inl a :: st => if b = 0 then z else K (pc + 1) L (vI (f a b) :: st) S
  | _ => z
def x_lop (f : Int → Int → Int) (pc : Nat) (L st : List MV) (S : MS) (K : KT β) (z : β) : β := match st with
  | .inr (.inl b) :: .inr (.inl a) :: st => K (pc + 1) L (vJ (f a b) :: st) S
  | _ => z
def x_ldv (f : Int → Int → Int) (pc : Nat) (L st : List MV) (S : MS) (K : KT β) (z : β) : β := match st with
  | .inr (.inl b) :: .inr (.inl a) :: st => if b = 0 then z else K (pc + 1) L (vJ (f a b) :: st) S
  | _ => z
def x_lsh (f : Int → Int → Int) (pc : Nat) (L st : List MV) (S : MS) (K : KT β) (z : β) : β := match st with
  | .inl b :: .inr (.inl a) :: st => K (pc + 1) L (vJ (f a b) :: st) S
  | _ => z
def x_lcmp (pc : Nat) (L st : List MV) (S : MS) (K : KT β) (z : β) : β := match st with
  | .inr (.inl b) :: .inr (.inl a) :: st => if a < b then K (pc + 1) L (vI (-1) :: st) S else if a = b then K (pc + 1) L (vI 0 :: st) S else K (pc + 1) L (vI 1 :: st) S
  | _ => z
def x_i2l (pc : Nat) (L st : List MV) (S : MS) (K : KT β) (z : β) : β := match st with
  | .inl a :: st => K (pc + 1) L (vJ a :: st) S
  | _ => z
def x_l2i (pc : Nat) (L st : List MV) (S : MS) (K : KT β) (z : β) : β := match st with
  | .inr (.inl a) :: st => K (pc + 1) L (vI (w32 a) :: st) S
  | _ => z
def x_i2b (pc : Nat) (L st : List MV) (S : MS) (K : KT β) (z : β) : β := match st with
  | .inl a :: st => K (pc + 1) L (vI (w8 a) :: st) S
  | _ => z
def x_dup (pc : Nat) (L st : List MV) (S : MS) (K : KT β) (z : β) : β := match st with
  | v :: st => cond (isJ v) z (K (pc + 1) L (v :: v :: st) S)
  | _ => z
def x_dup2 (pc : Nat) (L st : List MV) (S : MS) (K : KT β) (z : β) : β := match st with
  | v :: u :: st => cond (isJ v) z (cond (isJ u) z (K (pc + 1) L (v :: u :: v :: u :: st) S))
  | _ => z
def x_pop (pc : Nat) (L st : List MV) (S : MS) (K : KT β) (z : β) : β := match st with
  | v :: st => cond (isJ v) z (K (pc + 1) L st S)
  | _ => z
def x_icmp (c : Jvm.ClassFile.Cond) (t pc : Nat) (L st : List MV) (S : MS) (K : KT β) (z : β) : β := match st with
  | .inl b :: .inl a :: st => match c with
    | .lt => if a < b then K t L st S else K (pc + 1) L st S
    | .ge => if a < b then K (pc + 1) L st S else K t L st S
    | .gt => if b < a then K t L st S else K (pc + 1) L st S
    | .le => if b < a then K (pc + 1) L st S else K t L st S
    | .eq => if a = b then K t L st S else K (pc + 1) L st S
    | .ne => if a = b then K (pc + 1) L st S else K t L st S
  | _ => z
def x_if (c : Jvm.ClassFile.Cond) (t pc : Nat) (L st : List MV) (S : MS) (K : KT β) (z : β) : β := match st with
  | .inl a :: st => match c with
    | .lt => if a < 0 then K t L st S else K (pc + 1) L st S
    | .ge => if a < 0 then K (pc + 1) L st S else K t L st S
    | .gt => if 0 < a then K t L st S else K (pc + 1) L st S
    | .le => if 0 < a then K (pc + 1) L st S else K t L st S
    | .eq => if a = 0 then K t L st S else K (pc + 1) L st S
    | .ne => if a = 0 then K (pc + 1) L st S else K t L st S
  | _ => z
def x_ifnull (pc : Nat) (L st : List MV) (S : MS) (K : KT β) (z : β) : β := match st with
  | .inr (.inr (.inl _)) :: st => K (pc + 1) L st S
  | _ => z
/-- a switch over low .. : one test a place, from the first on -/
def x_sw (L st : List MV) (S : MS) (K : KT β) (d : Nat) (a : Int) : Int → List Int → β
  | _, [] => K d L st S
  | lo, t :: ts => if a = lo then K t.toNat L st S else x_sw L st S K d a (lo + 1) ts
def x_switch (d : Nat) (lo : Int) (ts : List Int) (L st : List MV) (S : MS) (K : KT β) (z : β) : β := match st with
  | .inl a :: st => x_sw L st S K d a lo ts
  | _ => z
/-- n: the object's kind of class * 100 and the field's place -/
def x_get (n pc : Nat) (L st : List MV) (S : MS) (K : KT β) (z : β) : β := match st with
  | .inr (.inr (.inl (k, i))) :: st => cond (Nat.beq (kCls k) (n / 100)) (match fTy (n / 100) (n % 100) with
    | 0 => K (pc + 1) L (vI (S.2.2 k i (n % 100)) :: st) S
    | 1 => K (pc + 1) L (vI (S.2.2 k i (n % 100)) :: st) S
    | 2 => K (pc + 1) L (vJ (S.2.2 k i (n % 100)) :: st) S
    | 3 => cond (elem3 (k, i, n % 100) S.2.1) z (K (pc + 1) L (.inr (.inr (.inl (fRef k i (n % 100)))) :: st) S)
    | _ => z) z
  | _ => z
def x_put (n pc : Nat) (L st : List MV) (S : MS) (K : KT β) (z : β) : β := match st with
  | v :: .inr (.inr (.inl (k, i))) :: st => cond (Nat.beq (kCls k) (n / 100)) (match fTy (n / 100) (n % 100), v with
    | 0, .inl x => K (pc + 1) L st (S.1, S.2.1, sup S.2.2 k i (n % 100) x)
    | 1, .inl x => if x = 0 then K (pc + 1) L st (S.1, S.2.1, sup S.2.2 k i (n % 100) x) else if x = 1 then K (pc + 1) L st (S.1, S.2.1, sup S.2.2 k i (n % 100) x) else z
    | 2, .inr (.inl x) => K (pc + 1) L st (S.1, S.2.1, sup S.2.2 k i (n % 100) x)
    | 3, .inr (.inr (.inl q)) => cond (Nat.beq q.1 (fRef k i (n % 100)).1) (cond (Nat.beq q.2 (fRef k i (n % 100)).2) (K (pc + 1) L st (S.1, rem3 (k, i, n % 100) S.2.1, S.2.2)) z) z
    | _, _ => z) z
  | _ => z
def x_alen (N pc : Nat) (L st : List MV) (S : MS) (K : KT β) (z : β) : β := match st with
  | .inr (.inr (.inl (k, _))) :: st => match kTag k with
    | 1 => K (pc + 1) L (vI (kLenN N k) :: st) S
    | 2 => K (pc + 1) L (vI (kLenN N k) :: st) S
    | 3 => K (pc + 1) L (vI (kLenN N k) :: st) S
    | 4 => K (pc + 1) L (vI (kLenN N k) :: st) S
    | _ => z
  | _ => z
def x_iald (N pc : Nat) (L st : List MV) (S : MS) (K : KT β) (z : β) : β := match st with
  | .inl j :: .inr (.inr (.inl (k, i))) :: st => match kTag k with
    | 1 => if j < 0 then z else if j < kLenN N k then K (pc + 1) L (vI (S.2.2 k i j.toNat) :: st) S else z
    | 4 => if j < 0 then z else if j < kLenN N k then K (pc + 1) L (vI (S.2.2 k i j.toNat) :: st) S else z
    | _ => z
  | _ => z
def x_bald (N pc : Nat) (L st : List MV) (S : MS) (K : KT β) (z : β) : β := match st with
  | .inl j :: .inr (.inr (.inl (k, i))) :: st => match kTag k with
    | 2 => if j < 0 then z else if j < kLenN N k then K (pc + 1) L (vI (S.2.2 k i j.toNat) :: st) S else z
    | _ => z
  | _ => z
def x_lald (N pc : Nat) (L st : List MV) (S : MS) (K : KT β) (z : β) : β := match st with
  | .inl j :: .inr (.inr (.inl (k, i))) :: st => match kTag k with
    | 3 => if j < 0 then z else if j < kLenN N k then K (pc + 1) L (vJ (S.2.2 k i j.toNat) :: st) S else z
    | _ => z
  | _ => z
def x_iast (N pc : Nat) (L st : List MV) (S : MS) (K : KT β) (z : β) : β := match st with
  | .inl x :: .inl j :: .inr (.inr (.inl (k, i))) :: st => match kTag k with
    | 1 => if j < 0 then z else if j < kLenN N k then K (pc + 1) L st (S.1, S.2.1, sup S.2.2 k i j.toNat x) else z
    | _ => z
  | _ => z
def x_bast (N pc : Nat) (L st : List MV) (S : MS) (K : KT β) (z : β) : β := match st with
  | .inl x :: .inl j :: .inr (.inr (.inl (k, i))) :: st => match kTag k with
    | 2 => if j < 0 then z else if j < kLenN N k then K (pc + 1) L st (S.1, S.2.1, sup S.2.2 k i j.toNat (w8 x)) else z
    | _ => z
  | _ => z
def x_last (N pc : Nat) (L st : List MV) (S : MS) (K : KT β) (z : β) : β := match st with
  | .inr (.inl x) :: .inl j :: .inr (.inr (.inl (k, i))) :: st => match kTag k with
    | 3 => if j < 0 then z else if j < kLenN N k then K (pc + 1) L st (S.1, S.2.1, sup S.2.2 k i j.toNat x) else z
    | _ => z
  | _ => z
def x_new (ci pc : Nat) (L st : List MV) (S : MS) (K : KT β) (z : β) : β := match nth ords S.1 with
  | some (k, i) => cond (Nat.beq (kTag k) 0) (cond (Nat.beq (kCls k) ci) (K (pc + 1) L (vR k i :: st) (S.1 + 1, S.2.1 ++ refSlots k i, zro S.2.2 k i)) z) z
  | none => z
def tagOf : ArrayType → Nat
  | .int => 1
  | .byte => 2
  | .long => 3
  | _ => 0
def x_newa (t pc : Nat) (L st : List MV) (S : MS) (K : KT β) (z : β) : β := match st with
  | .inl n :: st => match nth ords S.1 with
    | some (k, i) => cond (Nat.beq (kTag k) t) (cond (Nat.beq t 0) z (if n = kLenZ k then K (pc + 1) L (vR k i :: st) (S.1 + 1, S.2.1, zro S.2.2 k i) else z)) z
    | none => z
  | _ => z
def x_copy (N pc : Nat) (L st : List MV) (S : MS) (K : KT β) (z : β) : β := match st with
  | .inl n :: .inl dp :: .inr (.inr (.inl (k2, i2))) :: .inl sp :: .inr (.inr (.inl (k, i))) :: st => cond (Nat.beq (kTag k) 1) (cond (Nat.beq (kTag k2) 1)
     (if n < 0 then z else if sp < 0 then z else if dp < 0 then z else if kLenN N k < sp + n then z else if kLenN N k2 < dp + n then z else
       cond (Nat.ble (wordsOf st) 8) (K (pc + 1) L st (S.1, S.2.1, cpy S.2.2 k i sp.toNat k2 i2 dp.toNat n.toNat)) z) z) z
  | _ => z
def x_slen (pc : Nat) (L st : List MV) (S : MS) (K : KT β) (z : β) : β := match st with
  | .inr (.inr (.inl (k, i))) :: st => cond (Nat.beq k 1000) (cond (Nat.ble (wordsOf st) 8) (K (pc + 1) L (vI (sLen i) :: st) S) z) z
  | _ => z
def x_schr (pc : Nat) (L st : List MV) (S : MS) (K : KT β) (z : β) : β := match st with
  | .inl j :: .inr (.inr (.inl (k, i))) :: st => cond (Nat.beq k 1000) (if j < 0 then z else if j < sLen i then cond (Nat.ble (wordsOf st) 8) (K (pc + 1) L (vI (sChr i j.toNat) :: st) S) z else z) z
  | _ => z
def x_obj (pc : Nat) (L st : List MV) (S : MS) (K : KT β) (z : β) : β := match st with
  | .inr (.inr (.inl (_, _))) :: st => cond (Nat.ble (wordsOf st) 8) (K (pc + 1) L st S) z
  | _ => z
/-- one step of what is neither a call nor an end -/
def stp (N : Nat) (ins : Instr) (pc : Nat) (L st : List MV) (S : MS) (K : KT β) (z : β) : β := match ins with
  | .iload i => x_iload i pc L st S K z
  | .aload i => x_aload i pc L st S K z
  | .lload i => x_lload i pc L st S K z
  | .istore i => x_istore i pc L st S K z
  | .astore i => x_astore i pc L st S K z
  | .lstore i => x_lstore i pc L st S K z
  | .fstore i => x_istore i pc (clr L i) st S K z
  | .dstore i => x_astore i pc (clr L i) st S K z
  | .iconst v => K (pc + 1) L (vI v :: st) S
  | .jsr_w v => K (pc + 1) L (vJ v :: st) S
  | .ldc i => K (pc + 1) L (vR 1000 i :: st) S
  | .iinc i c => x_iinc i c pc L st S K z
  | .iadd => x_iop (fun a b => w32 (a + b)) pc L st S K z
  | .isub => x_iop (fun a b => w32 (a - b)) pc L st S K z
  | .imul => x_iop (fun a b => w32 (a * b)) pc L st S K z
  | .iand => x_iop bAnd pc L st S K z
  | .ior => x_iop bOr pc L st S K z
  | .ixor => x_iop bXor pc L st S K z
  | .ishl => x_iop shl32 pc L st S K z
  | .ishr => x_iop shr32 pc L st S K z
  | .idiv => x_idv (fun a b => w32 (a.tdiv b)) pc L st S K z
  | .irem => x_idv Int.tmod pc L st S K z
  | .dadd => x_iopc (fun a b => min a b) pc L st S K z
  | .dsub => x_iopc (fun a b => max a b) pc L st S K z
  | .ladd => x_lop (fun a b => w64 (a + b)) pc L st S K z
  | .lmul => x_lop (fun a b => w64 (a * b)) pc L st S K z
  | .lor => x_lop jOr pc L st S K z
  | .ldiv => x_ldv (fun a b => w64 (a.tdiv b)) pc L st S K z
  | .lrem => x_ldv Int.tmod pc L st S K z
  | .lshl => x_lsh shl64 pc L st S K z
  | .lshr => x_lsh shr64 pc L st S K z
  | .lushr => x_lsh ushr64 pc L st S K z
  | .lcmp => x_lcmp pc L st S K z
  | .i2l => x_i2l pc L st S K z
  | .l2i => x_l2i pc L st S K z
  | .i2b => x_i2b pc L st S K z
  | .dup => x_dup pc L st S K z
  | .dup2 => x_dup2 pc L st S K z
  | .pop => x_pop pc L st S K z
  | .goto t => K t.toNat L st S
  | .if_icmp c t => x_icmp c t.toNat pc L st S K z
  | .ifCond c t => x_if c t.toNat pc L st S K z
  | .ifnull _ => x_ifnull pc L st S K z
  | .tableswitch d lo _ ts => x_switch d.toNat lo ts.toList L st S K z
  | .getfield n => x_get n pc L st S K z
  | .putfield n => x_put n pc L st S K z
  | .arraylength => x_alen N pc L st S K z
  | .iaload => x_iald N pc L st S K z
  | .baload => x_bald N pc L st S K z
  | .laload => x_lald N pc L st S K z
  | .iastore => x_iast N pc L st S K z
  | .bastore => x_bast N pc L st S K z
  | .lastore => x_last N pc L st S K z
  | .new ci => x_new ci pc L st S K z
  | .newarray t => x_newa (tagOf t) pc L st S K z
  | .dmul => x_copy N pc L st S K z
  | .ddiv => x_slen pc L st S K z
  | .drem => x_schr pc L st S K z
  | .dneg => x_obj pc L st S K z
  | _ => z
end XS
def push : Option MV → List MV → List MV
  | none, st => st
  | some v, st => v :: st
/-- the n topmost values, the deepest first, and what is below them -/
def takeR : Nat → List MV → List MV → Option (List MV × List MV)
  | 0, st, acc => some (acc, st)
  | _ + 1, [], _ => none
  | n + 1, v :: st, acc => takeR n st (v :: acc)
def spread : List MV → List MV
  | [] => []
  | .inr (.inl x) :: l => vJ x :: vX :: spread l
  | .inl x :: l => vI x :: spread l
  | .inr (.inr x) :: l => .inr (.inr x) :: spread l
def padX : Nat → List MV → List MV
  | 0, _ => []
  | n + 1, [] => vX :: padX n []
  | n + 1, v :: l => v :: padX n l
def mkL (m : Nat) (as : List MV) : List MV := padX (mMaxL m) (spread as)
/-- the receiver of a method that is not static is an object of its class -/
def noJ : List MV → Bool
  | [] => true
  | v :: l => cond (isJ v) false (noJ l)
/-- the arguments have room among the locals, and are longs only where the method may hold such -/
def argOk (m : Nat) (as : List MV) : Bool := cond (Nat.ble (spread as).length (mMaxL m)) (cond (mLong m) true (noJ as)) false
def recvC (m : Nat) : List MV → Bool
  | .inr (.inr (.inl (k, _))) :: _ => Nat.beq (kCls k) (mCls m)
  | _ => false
def recvOk (m : Nat) (as : List MV) : Bool := cond (argOk m as) (cond (mSt m) true (recvC m as)) false
def bnd (o : Option Out) (f : Option MV → MS → Option Out) : Option Out := match o with
  | some (r, S) => f r S
  | none => none
/-- a call: inv is what the callee does -/
def xcall (inv : Nat → List MV → MS → Option Out) (m pc : Nat) (L st : List MV) (S : MS) (K : KT (Option Out)) : Option Out := match takeR (mArg m) st [] with
  | some (as, rest) => cond (recvOk m as) (cond (Nat.ble (wordsOf rest) 8) (bnd (inv m as S) (fun r S' => K (pc + 1) L (push r rest) S')) none) none
  | none => none
def xret (m : Nat) (st : List MV) (S : MS) : Option Out := match st with
  | [.inl v] => match mRet m with
    | 1 => some (some (vI v), S)
    | 2 => if v = 0 then some (some (vI v), S) else if v = 1 then some (some (vI v), S) else none
    | _ => none
  | [.inr (.inl v)] => match mRet m with
    | 3 => some (some (vJ v), S)
    | _ => none
  | [.inr (.inr (.inl q))] => match mRet m with
    | 4 => some (some (.inr (.inr (.inl q))), S)
    | _ => none
  | [] => match mRet m with
    | 0 => some (none, S)
    | _ => none
  | _ => none
def one (N m : Nat) (inv : Nat → List MV → MS → Option Out) (ins : Instr) (pc : Nat) (L st : List MV) (S : MS) (K : KT (Option Out)) : Option Out := match ins with
  | .ireturn => xret m st S
  | .lreturn => xret m st S
  | .areturn => xret m st S
  | .return_ => xret m st S
  | .invokestatic k => xcall inv k pc L st S K
  | .invokevirtual k => xcall inv k pc L st S K
  | .invokespecial k => xcall inv k pc L st S K
  | ins => stp N ins pc L st S K none
def exec (N : Nat) : Nat → Nat → Nat → List MV → List MV → MS → Option Out
  | 0, _, _, _, _, _ => none
  | F + 1, m, pc, L, st, S => match nth (cod m) pc with
    | none => none
    | some ins => one N m (fun k as S => exec N F k 0 (mkL k as) [] S) ins pc L st S (exec N F m)
end
section
/-! WHAT A METHOD COMES TO, without fuel -/
def NF (n0 : Nat) (f : ∀ (β : Type), KT β → β → β) : Prop := (∃ (pc' : Nat) (L' st' : List MV) (S' : MS), n0 ≤ S'.1 ∧ ∀ (β : Type) (K : KT β) (z : β), f β K z = K pc' L' st' S') ∨ (∀ (β : Type) (K : KT β) (z : β), f β K z = z)
theorem NF.k {n0 : Nat} (pc : Nat) (L st : List MV) (S : MS) (h : n0 ≤ S.1 := by first | exact Nat.le_refl _ | exact Nat.le_succ _) : NF n0 (fun _ K _ => K pc L st S) := Or.inl ⟨pc, L, st, S, h, fun _ _ _ => rfl⟩
theorem NF.z {n0 : Nat} : NF n0 (fun _ _ z => z) := Or.inr fun _ _ _ => rfl
theorem NF.ite {n0 : Nat} {p : Prop} [d : Decidable p] {f g : ∀ (β : Type), KT β → β → β} (hf : NF n0 f) (hg : NF n0 g) : NF n0 (fun β K z => if p then f β K z else g β K z) := by
  by_cases h : p
  · simp only [h, if_true]; exact hf
  · simp only [h, if_false]; exact hg
theorem NF.cond {n0 : Nat} {b : Bool} {f g : ∀ (β : Type), KT β → β → β} (hf : NF n0 f) (hg : NF n0 g) : NF n0 (fun β K z => cond b (f β K z) (g β K z)) := by
  cases b
  · exact hg
  · exact hf
theorem NF.sw (L st : List MV) (S : MS) (d : Nat) (a : Int) : ∀ (ts : List Int) (lo : Int), NF S.1 (fun _ K _ => x_sw L st S K d a lo ts)
  | [], lo => NF.k d L st S
  | t :: ts, lo => NF.ite (NF.k t.toNat L st S) (NF.sw L st S d a ts (lo + 1))
section NFS
variable {N i pc n : Nat} {L st : List MV} {S : MS}
theorem nf_iload : NF S.1 (fun _ K z => x_iload i pc L st S K z) := by
  unfold x_iload; rcases nth L i with _ | (x | (x | (x | x))) <;> first | exact NF.z | exact NF.k _ _ _ _
theorem nf_lload : NF S.1 (fun _ K z => x_lload i pc L st S K z) := by
  unfold x_lload; rcases nth L i with _ | (x | (x | (x | x))) <;> first | exact NF.z | exact NF.k _ _ _ _
theorem nf_aload : NF S.1 (fun _ K z => x_aload i pc L st S K z) := by
  unfold x_aload; rcases nth L i with _ | (x | (x | (x | x))) <;> first | exact NF.z | exact NF.k _ _ _ _
theorem nf_istore : NF S.1 (fun _ K z => x_istore i pc L st S K z) := by
  unfold x_istore; rcases st with _ | ⟨(x | (x | (x | x))), st⟩ <;> first | exact NF.z | exact NF.k _ _ _ _
theorem nf_astore : NF S.1 (fun _ K z => x_astore i pc L st S K z) := by
  unfold x_astore; rcases st with _ | ⟨(x | (x | (x | x))), st⟩ <;> first | exact NF.z | exact NF.k _ _ _ _
theorem nf_lstore : NF S.1 (fun _ K z => x_lstore i pc L st S K z) := by
  unfold x_lstore; rcases st with _ | ⟨(x | (x | (x | x))), st⟩ <;> first | exact NF.z | exact NF.k _ _ _ _
theorem nf_iinc {c : Int} : NF S.1 (fun _ K z => x_iinc i c pc L st S K z) := by
  unfold x_iinc; rcases nth L i with _ | (x | (x | (x | x))) <;> first | exact NF.z | exact NF.k _ _ _ _
theorem nf_iop {f : Int → Int → Int} : NF S.1 (fun _ K z => x_iop f pc L st S K z) := by
  unfold x_iop; rcases st with _ | ⟨(x | (x | (x | x))), _ | ⟨(y | (y | (y | y))), st⟩⟩ <;> first | exact NF.z | exact NF.k _ _ _ _
theorem nf_iopc {f : Int → Int → Int} : NF S.1 (fun _ K z => x_iopc f pc L st S K z) := by
  unfold x_iopc; rcases st with _ | ⟨(x | (x | (x | x))), _ | ⟨(y | (y | (y | y))), st⟩⟩ <;> first | exact NF.z | exact NF.cond (NF.k _ _ _ _) NF.z
theorem nf_idv {f : Int → Int → Int} : NF S.1 (fun _ K z => x_idv f pc L st S K z) := by
  unfold x_idv; rcases st with _ | ⟨(x | (x | (x | x))), _ | ⟨(y | (y | (y | y))), st⟩⟩ <;> first | exact NF.z | exact NF.k _ _ _ _ | exact NF.ite NF.z (NF.k _ _ _ _)
theorem nf_lop {f : Int → Int → Int} : NF S.1 (fun _ K z => x_lop f pc L st S K z) := by
  unfold x_lop; rcases st with _ | ⟨(x | (x | (x | x))), _ | ⟨(y | (y | (y | y))), st⟩⟩ <;> first | exact NF.z | exact NF.k _ _ _ _
theorem nf_ldv {f : Int → Int → Int} : NF S.1 (fun _ K z => x_ldv f pc L st S K z) := by
  unfold x_ldv; rcases st with _ | ⟨(x | (x | (x | x))), _ | ⟨(y | (y | (y | y))), st⟩⟩ <;> first | exact NF.z | exact NF.k _ _ _ _ | exact NF.ite NF.z (NF.k _ _ _ _)
theorem nf_lsh {f : Int → Int → Int} : NF S.1 (fun _ K z => x_lsh f pc L st S K z) := by
  unfold x_lsh; rcases st with _ | ⟨(x | (x | (x | x))), _ | ⟨(y | (y | (y | y))), st⟩⟩ <;> first | exact NF.z | exact NF.k _ _ _ _
theorem nf_lcmp : NF S.1 (fun _ K z => x_lcmp pc L st S K z) := by
  unfold x_lcmp; rcases st with _ | ⟨(x | (x | (x | x))), _ | ⟨(y | (y | (y | y))), st⟩⟩ <;> first | exact NF.z | exact NF.ite (NF.k _ _ _ _) (NF.ite (NF.k _ _ _ _) (NF.k _ _ _ _))
theorem nf_i2l : NF S.1 (fun _ K z => x_i2l pc L st S K z) := by
  unfold x_i2l; rcases st with _ | ⟨(x | (x | (x | x))), st⟩ <;> first | exact NF.z | exact NF.k _ _ _ _
theorem nf_l2i : NF S.1 (fun _ K z => x_l2i pc L st S K z) := by
  unfold x_l2i; rcases st with _ | ⟨(x | (x | (x | x))), st⟩ <;> first | exact NF.z | exact NF.k _ _ _ _
theorem nf_i2b : NF S.1 (fun _ K z => x_i2b pc L st S K z) := by
  unfold x_i2b; rcases st with _ | ⟨(x | (x | (x | x))), st⟩ <;> first | exact NF.z | exact NF.k _ _ _ _
theorem nf_dup : NF S.1 (fun _ K z => x_dup pc L st S K z) := by
  unfold x_dup; rcases st with _ | ⟨v, st⟩
  · exact NF.z
  · exact NF.cond NF.z (NF.k _ _ _ _)
theorem nf_dup2 : NF S.1 (fun _ K z => x_dup2 pc L st S K z) := by
  unfold x_dup2; rcases st with _ | ⟨v, _ | ⟨u, st⟩⟩
  · exact NF.z
  · exact NF.z
  · exact NF.cond NF.z (NF.cond NF.z (NF.k _ _ _ _))
theorem nf_pop : NF S.1 (fun _ K z => x_pop pc L st S K z) := by
  unfold x_pop; rcases st with _ | ⟨v, st⟩
  · exact NF.z
  · exact NF.cond NF.z (NF.k _ _ _ _)
theorem nf_icmp {c : Jvm.ClassFile.Cond} : NF S.1 (fun _ K z => x_icmp c n pc L st S K z) := by
  unfold x_icmp; rcases st with _ | ⟨(x | (x | (x | x))), _ | ⟨(y | (y | (y | y))), st⟩⟩ <;> first | exact NF.z | (cases c <;> exact NF.ite (NF.k _ _ _ _) (NF.k _ _ _ _))
theorem nf_if {c : Jvm.ClassFile.Cond} : NF S.1 (fun _ K z => x_if c n pc L st S K z) := by
  unfold x_if; rcases st with _ | ⟨(x | (x | (x | x))), st⟩ <;> first | exact NF.z | (cases c <;> exact NF.ite (NF.k _ _ _ _) (NF.k _ _ _ _))
theorem nf_ifnull : NF S.1 (fun _ K z => x_ifnull pc L st S K z) := by
  unfold x_ifnull; rcases st with _ | ⟨(x | (x | (x | x))), st⟩ <;> first | exact NF.z | exact NF.k _ _ _ _
theorem nf_switch {lo : Int} {ts : List Int} : NF S.1 (fun _ K z => x_switch n lo ts L st S K z) := by
  unfold x_switch; rcases st with _ | ⟨(x | (x | (x | x))), st⟩ <;> first | exact NF.z | exact NF.sw _ _ _ _ _ _ _
theorem nf_get : NF S.1 (fun _ K z => x_get n pc L st S K z) := by
  unfold x_get; rcases st with _ | ⟨(x | (x | (x | x))), st⟩ <;> first | exact NF.z | skip
  refine NF.cond ?_ NF.z
  rcases fTy (n / 100) (n % 100) with _ | _ | _ | _ | _ <;> first | exact NF.z | exact NF.k _ _ _ _ | exact NF.cond NF.z (NF.k _ _ _ _)
theorem nf_put : NF S.1 (fun _ K z => x_put n pc L st S K z) := by
  unfold x_put; rcases st with _ | ⟨v, _ | ⟨(y | (y | (y | y))), st⟩⟩ <;> first | exact NF.z | skip
  refine NF.cond ?_ NF.z
  rcases fTy (n / 100) (n % 100) with _ | _ | _ | _ | _ <;> rcases v with (x | (x | (x | x))) <;> first | exact NF.z | exact NF.k _ _ _ _ | exact NF.cond (NF.cond (NF.k _ _ _ _) NF.z) NF.z | exact NF.ite (NF.k _ _ _ _) (NF.ite (NF.k _ _ _ _) NF.z)
theorem nf_alen : NF S.1 (fun _ K z => x_alen N pc L st S K z) := by
  unfold x_alen; rcases st with _ | ⟨(x | (x | (⟨k, j⟩ | x))), st⟩ <;> first | exact NF.z | skip
  dsimp only
  rcases kTag k with _ | _ | _ | _ | _ | _ <;> first | exact NF.z | exact NF.k _ _ _ _
theorem nf_iald : NF S.1 (fun _ K z => x_iald N pc L st S K z) := by
  unfold x_iald; rcases st with _ | ⟨(x | (x | (x | x))), _ | ⟨(y | (y | (⟨k, j⟩ | y))), st⟩⟩ <;> first | exact NF.z | skip
  dsimp only
  rcases kTag k with _ | _ | _ | _ | _ | _ <;> first | exact NF.z | exact NF.ite NF.z (NF.ite (NF.k _ _ _ _) NF.z)
theorem nf_bald : NF S.1 (fun _ K z => x_bald N pc L st S K z) := by
  unfold x_bald; rcases st with _ | ⟨(x | (x | (x | x))), _ | ⟨(y | (y | (⟨k, j⟩ | y))), st⟩⟩ <;> first | exact NF.z | skip
  dsimp only
  rcases kTag k with _ | _ | _ | _ | _ | _ <;> first | exact NF.z | exact NF.ite NF.z (NF.ite (NF.k _ _ _ _) NF.z)
theorem nf_lald : NF S.1 (fun _ K z => x_lald N pc L st S K z) := by
  unfold x_lald; rcases st with _ | ⟨(x | (x | (x | x))), _ | ⟨(y | (y | (⟨k, j⟩ | y))), st⟩⟩ <;> first | exact NF.z | skip
  dsimp only
  rcases kTag k with _ | _ | _ | _ | _ | _ <;> first | exact NF.z | exact NF.ite NF.z (NF.ite (NF.k _ _ _ _) NF.z)
theorem nf_iast : NF S.1 (fun _ K z => x_iast N pc L st S K z) := by
  unfold x_iast; rcases st with _ | ⟨(v | (v | (v | v))), _ | ⟨(x | (x | (x | x))), _ | ⟨(y | (y | (⟨k, j⟩ | y))), st⟩⟩⟩ <;> first | exact NF.z | skip
  dsimp only
  rcases kTag k with _ | _ | _ | _ | _ | _ <;> first | exact NF.z | exact NF.ite NF.z (NF.ite (NF.k _ _ _ _) NF.z)
theorem nf_bast : NF S.1 (fun _ K z => x_bast N pc L st S K z) := by
  unfold x_bast; rcases st with _ | ⟨(v | (v | (v | v))), _ | ⟨(x | (x | (x | x))), _ | ⟨(y | (y | (⟨k, j⟩ | y))), st⟩⟩⟩ <;> first | exact NF.z | skip
  dsimp only
  rcases kTag k with _ | _ | _ | _ | _ | _ <;> first | exact NF.z | exact NF.ite NF.z (NF.ite (NF.k _ _ _ _) NF.z)
theorem nf_last : NF S.1 (fun _ K z => x_last N pc L st S K z) := by
  unfold x_last; rcases st with _ | ⟨(v | (v | (v | v))), _ | ⟨(x | (x | (x | x))), _ | ⟨(y | (y | (⟨k, j⟩ | y))), st⟩⟩⟩ <;> first | exact NF.z | skip
  dsimp only
  rcases kTag k with _ | _ | _ | _ | _ | _ <;> first | exact NF.z | exact NF.ite NF.z (NF.ite (NF.k _ _ _ _) NF.z)
theorem nf_new : NF S.1 (fun _ K z => x_new n pc L st S K z) := by
  unfold x_new; rcases nth ords S.1 with _ | ⟨k, j⟩
  · exact NF.z
  · exact NF.cond (NF.cond (NF.k _ _ _ _) NF.z) NF.z
theorem nf_newa : NF S.1 (fun _ K z => x_newa n pc L st S K z) := by
  unfold x_newa; rcases st with _ | ⟨(x | (x | (x | x))), st⟩ <;> first | exact NF.z | skip
  dsimp only
  rcases nth ords S.1 with _ | ⟨k, j⟩
  · exact NF.z
  · exact NF.cond (NF.cond NF.z (NF.ite (NF.k _ _ _ _) NF.z)) NF.z
theorem nf_slen : NF S.1 (fun _ K z => x_slen pc L st S K z) := by
  unfold x_slen; rcases st with _ | ⟨(x | (x | (x | x))), st⟩ <;> first | exact NF.z | exact NF.cond (NF.cond (NF.k _ _ _ _) NF.z) NF.z
theorem nf_schr : NF S.1 (fun _ K z => x_schr pc L st S K z) := by
  unfold x_schr; rcases st with _ | ⟨(x | (x | (x | x))), _ | ⟨(y | (y | (⟨k, j⟩ | y))), st⟩⟩ <;> first | exact NF.z | exact NF.cond (NF.ite NF.z (NF.ite (NF.cond (NF.k _ _ _ _) NF.z) NF.z)) NF.z
theorem nf_obj : NF S.1 (fun _ K z => x_obj pc L st S K z) := by
  unfold x_obj; rcases st with _ | ⟨(x | (x | (x | x))), st⟩ <;> first | exact NF.z | exact NF.cond (NF.k _ _ _ _) NF.z
theorem nf_copy : NF S.1 (fun _ K z => x_copy N pc L st S K z) := by
  unfold x_copy
  rcases st with _ | ⟨(a1 | (a1 | (a1 | a1))), _ | ⟨(a2 | (a2 | (a2 | a2))), st⟩⟩ <;> first | exact NF.z | skip
  rcases st with _ | ⟨(a3 | (a3 | (⟨k, j⟩ | a3))), _ | ⟨(a4 | (a4 | (a4 | a4))), st⟩⟩ <;> first | exact NF.z | skip
  rcases st with _ | ⟨(a5 | (a5 | (⟨k2, j2⟩ | a5))), st⟩ <;> first | exact NF.z | skip
  exact NF.cond (NF.cond (NF.ite NF.z (NF.ite NF.z (NF.ite NF.z (NF.ite NF.z (NF.ite NF.z (NF.cond (NF.k _ _ _ _) NF.z)))))) NF.z) NF.z
theorem stp_nf (ins : Instr) : NF S.1 (fun _ K z => stp N ins pc L st S K z) := by
  cases ins <;> first | exact NF.z | exact NF.k _ _ _ _ | exact nf_iload | exact nf_lload | exact nf_aload | exact nf_istore | exact nf_astore | exact nf_lstore | exact nf_iinc | exact nf_iop | exact nf_iopc | exact nf_idv | exact nf_lop | exact nf_ldv | exact nf_lsh | exact nf_lcmp | exact nf_i2l | exact nf_l2i | exact nf_i2b | exact nf_dup | exact nf_dup2 | exact nf_pop | exact nf_icmp | exact nf_if | exact nf_ifnull | exact nf_switch | exact nf_get | exact nf_put | exact nf_alen | exact nf_iald | exact nf_bald | exact nf_lald | exact nf_iast | exact nf_bast | exact nf_last | exact nf_new | exact nf_newa | exact nf_slen | exact nf_schr | exact nf_obj | exact nf_copy
end NFS
section EV
variable {N : Nat}
theorem bnd_some {o : Option Out} {f : Option MV → MS → Option Out} {x : Out} (h : bnd o f = some x) : ∃ y : Out, o = some y ∧ f y.1 y.2 = some x := by
  rcases o with _ | ⟨r, S⟩
  · exact absurd h (by simp [bnd])
  · exact ⟨(r, S), rfl, h⟩
/-- what a step that is a call, or an end, or neither, comes to, over what goes on -/
def OneOr (N m : Nat) (ins : Instr) (pc : Nat) (L st : List MV) (S : MS) : Prop :=
    (∃ (k : Nat) (as rest : List MV), ∀ inv K, one N m inv ins pc L st S K = bnd (inv k as S) (fun r S' => K (pc + 1) L (push r rest) S')) ∨
    (∃ (pc' : Nat) (L' st' : List MV) (S' : MS), S.1 ≤ S'.1 ∧ ∀ inv K, one N m inv ins pc L st S K = K pc' L' st' S') ∨ (∃ o : Option Out, (∀ x, o = some x → S.1 ≤ x.2.1) ∧ ∀ inv K, one N m inv ins pc L st S K = o)
theorem one_s {m : Nat} {ins : Instr} {pc : Nat} {L st : List MV} {S : MS} (h : ∀ inv K, one N m inv ins pc L st S K = stp N ins pc L st S K none) : OneOr N m ins pc L st S := by
  rcases stp_nf (N := N) (pc := pc) (L := L) (st := st) (S := S) ins with ⟨a, b, c, d, hl, e⟩ | e
  · exact Or.inr (Or.inl ⟨a, b, c, d, hl, fun inv K => (h inv K).trans (e _ K none)⟩)
  · exact Or.inr (Or.inr ⟨none, (fun _ h => by cases h), fun inv K => (h inv K).trans (e _ K none)⟩)
theorem one_c {m : Nat} {ins : Instr} {pc : Nat} {L st : List MV} {S : MS} (k : Nat) (h : ∀ inv K, one N m inv ins pc L st S K = xcall inv k pc L st S K) : OneOr N m ins pc L st S := by
  rcases e : takeR (mArg k) st [] with _ | ⟨as, rest⟩
  · exact Or.inr (Or.inr ⟨none, (fun _ h => by cases h), fun inv K => (h inv K).trans (by simp only [xcall, e])⟩)
  · rcases e2 : recvOk k as with _ | _
    · exact Or.inr (Or.inr ⟨none, (fun _ h => by cases h), fun inv K => (h inv K).trans (by simp only [xcall, e, e2, cond_false])⟩)
    · rcases e3 : Nat.ble (wordsOf rest) 8 with _ | _
      · exact Or.inr (Or.inr ⟨none, (fun _ h => by cases h), fun inv K => (h inv K).trans (by simp only [xcall, e, e2, e3, cond_true, cond_false])⟩)
      · exact Or.inl ⟨k, as, rest, fun inv K => (h inv K).trans (by simp only [xcall, e, e2, e3, cond_true])⟩
theorem xret_n {m : Nat} {st : List MV} {S : MS} {x : Out} (h : xret m st S = some x) : S.1 ≤ x.2.1 := by
  unfold xret at h
  split at h <;> (try split at h) <;> (try split at h) <;> (try split at h) <;> first | (cases h; exact Nat.le_refl _) | cases h
theorem one_or (m : Nat) (ins : Instr) (pc : Nat) (L st : List MV) (S : MS) : OneOr N m ins pc L st S := by
  cases ins <;> first | exact one_s (fun _ _ => rfl) | exact one_c _ (fun _ _ => rfl) | exact Or.inr (Or.inr ⟨_, fun _ h => xret_n h, fun _ _ => rfl⟩)
theorem exec_mono : ∀ (F : Nat) (m pc : Nat) (L st : List MV) (S : MS) (o : Out), exec N F m pc L st S = some o → exec N (F + 1) m pc L st S = some o := by
  intro F
  induction F with
  | zero => intro m pc L st S o h; exact absurd h (by simp [exec])
  | succ F ih =>
    intro m pc L st S o h
    rw [exec] at h ⊢
    rcases e : nth (cod m) pc with _ | ins
    · rw [e] at h; exact absurd h (by simp)
    rw [e] at h
    dsimp only at h ⊢
    rcases one_or (N := N) m ins pc L st S with ⟨k, as, rest, hc⟩ | ⟨a, b, c, d, -, hc⟩ | ⟨o', -, hc⟩
    · rw [hc] at h ⊢
      obtain ⟨y, h1, h2⟩ := bnd_some h
      rw [ih _ _ _ _ _ _ h1]
      exact ih _ _ _ _ _ _ h2
    · rw [hc] at h ⊢
      exact ih _ _ _ _ _ _ h
    · rw [hc] at h ⊢
      exact h
theorem exec_le {F G m pc : Nat} {L st : List MV} {S : MS} {o : Out} (hFG : F ≤ G) (h : exec N F m pc L st S = some o) : exec N G m pc L st S = some o := by
  induction hFG with
  | refl => exact h
  | step _ ih => exact exec_mono _ _ _ _ _ _ _ ih
/-- cells are only ever made -/
theorem exec_n : ∀ (F : Nat) (m pc : Nat) (L st : List MV) (S : MS) (o : Out), exec N F m pc L st S = some o → S.1 ≤ o.2.1 := by
  intro F
  induction F with
  | zero => intro m pc L st S o h; exact absurd h (by simp [exec])
  | succ F ih =>
    intro m pc L st S o h
    rw [exec] at h
    rcases e : nth (cod m) pc with _ | ins
    · rw [e] at h; exact absurd h (by simp)
    rw [e] at h
    dsimp only at h
    rcases one_or (N := N) m ins pc L st S with ⟨k, as, rest, hc⟩ | ⟨a, b, c, d, hl, hc⟩ | ⟨o', hl, hc⟩
    · rw [hc] at h
      obtain ⟨y, h1, h2⟩ := bnd_some h
      exact Nat.le_trans (ih _ _ _ _ _ _ h1) (ih _ _ _ _ _ _ h2)
    · rw [hc] at h
      exact Nat.le_trans hl (ih _ _ _ _ _ _ h)
    · rw [hc] at h
      exact hl o h
noncomputable def ev (N m pc : Nat) (L st : List MV) (S : MS) : Option Out :=
  @dite _ (∃ o : Out, ∃ F, exec N F m pc L st S = some o) (Classical.propDecidable _) (fun h => some (Classical.choose h)) (fun _ => none)
theorem ev_of {F m pc : Nat} {L st : List MV} {S : MS} {o : Out} (h : exec N F m pc L st S = some o) : ev N m pc L st S = some o := by
  have hx : ∃ o : Out, ∃ F, exec N F m pc L st S = some o := ⟨o, F, h⟩
  unfold ev
  rw [dif_pos hx]
  obtain ⟨G, hG⟩ := Classical.choose_spec hx
  have a := exec_le (Nat.le_max_left F G) h
  have b := exec_le (Nat.le_max_right F G) hG
  rw [a] at b
  exact b.symm
theorem ev_to {m pc : Nat} {L st : List MV} {S : MS} {o : Out} (h : ev N m pc L st S = some o) : ∃ F, exec N F m pc L st S = some o := by
  unfold ev at h
  split at h
  · rename_i hx
    obtain ⟨F, hF⟩ := Classical.choose_spec hx
    exact ⟨F, by rw [hF, h]⟩
  · cases h
theorem ev_ext {m pc : Nat} {L st : List MV} {S : MS} {x : Option Out} (h1 : ∀ o, ev N m pc L st S = some o → x = some o) (h2 : ∀ o, x = some o → ev N m pc L st S = some o) : ev N m pc L st S = x := by
  rcases e : ev N m pc L st S with _ | o
  · rcases x with _ | o
    · rfl
    · rw [h2 o rfl] at e; cases e
  · exact (h1 o e).symm
noncomputable def inv (N k : Nat) (as : List MV) (S : MS) : Option Out := ev N k 0 (mkL k as) [] S
theorem ev_step {m pc : Nat} {ins : Instr} (L st : List MV) (S : MS) (e : nth (cod m) pc = some ins) : ev N m pc L st S = one N m (inv N) ins pc L st S (ev N m) := by
  refine ev_ext (fun o h => ?_) (fun o h => ?_)
  · obtain ⟨F, hF⟩ := ev_to h
    rcases F with _ | F
    · exact absurd hF (by simp [exec])
    rw [exec, e] at hF
    dsimp only at hF
    rcases one_or (N := N) m ins pc L st S with ⟨k, as, rest, hc⟩ | ⟨a, b, c, d, -, hc⟩ | ⟨o', -, hc⟩
    · rw [hc] at hF ⊢
      obtain ⟨y, h1, h2⟩ := bnd_some hF
      rw [show inv N k as S = some y from ev_of h1]
      exact ev_of h2
    · rw [hc] at hF ⊢
      exact ev_of hF
    · rw [hc] at hF ⊢
      exact hF
  · rcases one_or (N := N) m ins pc L st S with ⟨k, as, rest, hc⟩ | ⟨a, b, c, d, -, hc⟩ | ⟨o', -, hc⟩
    · rw [hc] at h
      obtain ⟨y, h1, h2⟩ := bnd_some h
      obtain ⟨F, hF⟩ := ev_to h1
      obtain ⟨G, hG⟩ := ev_to h2
      refine ev_of (F := max F G + 1) ?_
      rw [exec, e]
      dsimp only
      rw [hc]
      rw [exec_le (Nat.le_max_left F G) hF]
      exact exec_le (Nat.le_max_right F G) hG
    · rw [hc] at h
      obtain ⟨G, hG⟩ := ev_to h
      refine ev_of (F := G + 1) ?_
      rw [exec, e]
      dsimp only
      rw [hc]
      exact hG
    · rw [hc] at h
      refine ev_of (F := 1) ?_
      rw [exec, e]
      dsimp only
      rw [hc]
      exact h
theorem ev_no {m pc : Nat} (L st : List MV) (S : MS) (e : nth (cod m) pc = none) : ev N m pc L st S = none := by
  refine ev_ext (fun o h => ?_) (fun o h => by cases h)
  obtain ⟨F, hF⟩ := ev_to h
  rcases F with _ | F
  · exact absurd hF (by simp [exec])
  · rw [exec, e] at hF
    cases hF
/-- a walk of at most so many steps, that ends at the places told -/
noncomputable def runK (N m : Nat) (stops : List Nat) : Nat → Nat → List MV → List MV → MS → Option Out
  | 0, pc, L, st, S => ev N m pc L st S
  | k + 1, pc, L, st, S => match nth (cod m) pc with
    | none => none
    | some ins => one N m (inv N) ins pc L st S (fun pc' L' st' S' => cond (elemN pc' stops) (ev N m pc' L' st' S') (runK N m stops k pc' L' st' S'))
theorem run_eq (m : Nat) (stops : List Nat) : ∀ (k pc : Nat) (L st : List MV) (S : MS), ev N m pc L st S = runK N m stops k pc L st S := by
  intro k
  induction k with
  | zero => intro pc L st S; rfl
  | succ k ih =>
    intro pc L st S
    rw [runK]
    rcases e : nth (cod m) pc with _ | ins
    · exact ev_no L st S e
    · rw [ev_step L st S e]
      dsimp only
      congr 1
      funext pc' L' st' S'
      rcases elemN pc' stops with _ | _
      · exact ih _ _ _ _
      · rfl
end EV
/-- all is made: 55 cells, every reference put -/
abbrev P (σ : Sto) : MS := (55, [], σ)
theorem bnd_s (r : Option MV) (S : MS) (f : Option MV → MS → Option Out) : bnd (some (r, S)) f = f r S := rfl
theorem bnd_n (f : Option MV → MS → Option Out) : bnd none f = none := rfl
theorem push_s (v : MV) (st : List MV) : push (some v) st = v :: st := rfl
theorem push_n (st : List MV) : push none st = st := rfl
end
section
def nCon : Nat := 4
def nConL : Nat := 21
def bpL_law : List Nat := [0, 3, 4, 7, 8, 11, 12, 15, 16, 17, 18, 19, 20, 21, 23, 24, 27, 28, 29, 30, 32, 33, 192, 193, 194, 195, 196, 197, 198, 199, 200, 201, 202, 203, 204, 205, 206, 207, 208, 209, 210, 211, 212, 213, 214, 215, 216, 217, 218, 221, 222, 223, 224, 225, 226, 227, 228, 229, 230, 231, 232, 233, 234, 235, 236, 237, 238, 239, 240, 241, 242, 243, 244, 245, 246, 247, 250, 253, 254, 255, 256, 257, 258, 259, 260, 261, 264, 265, 266, 267, 268, 269, 270, 273, 276, 277, 278, 279, 282, 283, 286, 289, 290, 291, 292, 293, 294, 295, 296, 297, 298, 299, 300, 301, 302, 305, 306, 307, 308, 309, 310, 311, 312, 313, 314, 315, 316, 319, 322, 323, 324, 325, 326, 327, 328, 329, 330, 333, 334, 335, 336, 337, 338, 339, 342, 345, 346, 347, 348, 349, 350, 351, 352, 353, 356, 357, 360, 361, 362, 363, 364, 365, 366, 369, 370, 371, 372, 373, 374, 375, 378, 379, 382, 383, 384, 385, 386, 387, 388, 391, 394, 395, 396, 397, 398, 399, 400, 401, 402, 405, 406, 407, 408, 409, 410, 411, 414, 417, 418, 419, 420, 421, 422, 423, 424, 425, 426, 427, 428, 429, 430, 431, 432, 433, 434, 435, 438, 439, 440, 441, 442, 443, 444, 445, 446, 447, 448, 449, 450, 451, 452, 453, 454, 457, 460, 461, 462, 463, 464, 465, 466, 467, 468, 469, 470, 471, 472, 473, 476, 477, 478, 479, 480, 481, 482, 483, 484, 485, 486, 487, 490, 493, 494, 495, 496, 497, 498, 499, 500, 501, 502, 503, 504, 505, 506, 509, 510, 511, 512, 513, 514, 515, 516, 517, 518, 519, 520, 523, 526, 527, 528, 529, 530, 531, 532, 533, 534, 537, 538, 539, 540, 541, 542, 543, 546, 549, 550, 551, 552, 553, 554, 555, 556, 557, 560, 561, 562, 563, 564, 565, 566, 569, 572, 573, 574, 575, 576, 577, 578, 579, 580, 583, 584, 585, 586, 587, 588, 589, 592, 595, 596, 597, 598, 601, 602, 605, 608, 609, 610, 611, 612, 613, 614, 615, 616, 617, 618, 619, 620, 621, 622, 623, 624, 625, 626, 629, 630, 631, 632, 633, 634, 635, 636, 637, 638, 639, 640, 641, 642, 643, 644, 645, 648, 651, 652, 653, 654, 655, 656, 657, 658, 659, 660, 661, 662, 663, 664, 665, 666, 667, 668, 669, 672, 673, 674, 675, 676, 677, 678, 679, 680, 681, 682, 683, 684, 685, 686, 687, 688, 691, 694, 695, 696, 697, 700, 701, 704, 707, 708, 709, 710, 711, 712, 713, 714, 715, 716, 717, 718, 719, 720, 723, 724, 725, 726, 727, 728, 729, 730, 731, 732, 733, 734, 737, 740, 741, 742, 743, 744, 745, 746, 747, 748, 749, 750, 751, 752, 753, 756, 757, 758, 759, 760, 761, 762, 763, 764, 765, 766, 767, 770, 773, 774, 775, 776, 777, 778, 779, 780, 781, 784, 785, 786, 787, 788, 789, 790, 793, 796, 797, 798, 799, 800, 801, 802, 803, 804, 807, 808, 809, 810, 811, 812, 813, 816, 819, 820, 821, 822, 823, 824, 825, 826, 827, 830, 831, 832, 833, 834, 835, 836, 839, 842, 843, 844, 845, 846, 847, 848, 849, 850, 851, 852, 853, 854, 855, 858, 859, 860, 861, 862, 863, 864, 865, 866, 867, 868, 869, 872, 875, 876, 877, 878, 879, 880, 881, 882, 883, 886, 887, 888, 889, 890, 891, 892, 895, 898, 899, 900, 901, 902, 903, 904, 905, 906, 909, 910, 913, 914, 917, 918, 919, 920, 921, 922, 923, 926, 927, 930, 931, 934, 937, 938, 939, 940, 941, 942, 943, 944, 945, 946, 947, 948, 949, 950, 951, 952, 953, 954, 955, 956, 957, 958, 959, 960, 963, 964, 965, 966, 967, 968, 969, 970, 971, 972, 973, 974, 975, 976, 977, 978, 979, 980, 981, 982, 983, 984, 987, 990, 991, 992, 993, 994, 995, 996, 997, 998, 999, 1000, 1001, 1002, 1003, 1004, 1005, 1006, 1007, 1008, 1011, 1012, 1013, 1014, 1015, 1016, 1017, 1018, 1019, 1020, 1021, 1022, 1023, 1024, 1025, 1026, 1027, 1030, 1033, 1034, 1035, 1036, 1037, 1038, 1039, 1040, 1041, 1044, 1045, 1046, 1047, 1048, 1049, 1050, 1053, 1056, 1057, 1058, 1059, 1060, 1061, 1062, 1063, 1064, 1067, 1068, 1069, 1070, 1071, 1072, 1073, 1076, 1079, 1080, 1081, 1082, 1083, 1084, 1085, 1086, 1087, 1090, 1091, 1092, 1093, 1094, 1095, 1096, 1099, 1102, 1103, 1104, 1105, 1106, 1107, 1108, 1109, 1110, 1111, 1112, 1113, 1114, 1115, 1118, 1119, 1120, 1121, 1122, 1123, 1124, 1125, 1126, 1127, 1128, 1129, 1132, 1135, 1136, 1137, 1138, 1139, 1140, 1141, 1142, 1143, 1146, 1147, 1148, 1149, 1150, 1151, 1152, 1155, 1158, 1159, 1160, 1161, 1162, 1163, 1164, 1165, 1166, 1167, 1168, 1169, 1170, 1171, 1174, 1175, 1176, 1177, 1178, 1179, 1180, 1181, 1182, 1183, 1184, 1185, 1188, 1191, 1192, 1193, 1194, 1195, 1196, 1197, 1198, 1199, 1200, 1201, 1202, 1203, 1204, 1207, 1208, 1209, 1210, 1211, 1212, 1213, 1214, 1215, 1216, 1217, 1218, 1221, 1224, 1225, 1226, 1227, 1228, 1229, 1230, 1231, 1232, 1235, 1236, 1237, 1238, 1239, 1240, 1241, 1244, 1247, 1248, 1249, 1250, 1251, 1252, 1253, 1254, 1255, 1258, 1259, 1260, 1261, 1262, 1263, 1264, 1267, 1270, 1271, 1272, 1275, 1278, 1279, 1280]
def bpX0_init : List Nat := [0, 1, 4, 5, 7, 9, 12, 13, 15, 17, 20, 21, 23, 25, 28, 29, 30, 33, 34, 35, 38, 39, 41, 44, 45]
def bpX0_clear : List Nat := [0, 1, 2, 5, 6, 7, 10, 11, 12, 15, 16, 17, 20, 21, 23, 26, 27, 30, 31, 34, 35]
def bpX0_take : List Nat := [0, 1, 2, 5, 8, 9, 10, 13, 16, 17, 18, 21, 24, 25, 26, 29, 32, 33, 34, 37, 40, 41, 44, 45, 46, 49, 50, 52, 55, 56, 59, 60, 61, 64, 65, 67, 70, 71, 74, 75, 76, 79, 80, 82, 85, 86]
def bpX0_hasKey : List Nat := [0, 1, 4, 5, 6, 9, 12, 13, 16, 17, 18]
def bpX0_hasImage : List Nat := [0, 1, 4, 5, 6, 9, 12, 13, 16, 17, 18]
def bpX0_hasRecoveryImage : List Nat := [0, 1, 2, 5, 8, 9, 12, 13, 15, 16, 17, 18, 21, 24, 25, 28, 29, 30]
def bpX0_addKey : List Nat := [0, 1, 4, 5, 8, 9, 12, 13, 16, 17, 20, 21, 24, 25, 26, 29, 30, 31, 34, 35]
def bpX0_addImage : List Nat := [0, 1, 4, 6, 7, 9, 10, 12, 14, 15, 16, 18, 20, 23, 24, 27, 29, 31, 32, 33, 35, 36, 37, 39, 42, 43, 46, 48, 50, 51, 52, 54, 55, 56, 59, 61, 64, 66, 69, 72, 73, 76, 78, 79, 80, 81, 84, 85, 88, 90, 91, 92, 93, 96, 97, 100, 102, 103, 104, 105, 108, 109, 112, 114, 115, 116, 118, 121, 122, 125, 127, 128, 129, 131, 134, 135, 138, 140, 141, 142, 143, 144, 147, 149, 152, 155, 156, 157, 160, 161, 162, 165, 166]
def bpX0_digest : List Nat := [0, 1, 4, 5, 7, 8, 9, 10, 12, 13, 14]
def bpX0_sign : List Nat := [0, 1, 4, 5, 6, 7, 8, 11, 14, 16, 17, 18, 19, 21, 23, 24, 27, 28, 30, 31, 32, 33, 35, 36, 39, 40, 42, 43, 44, 47, 50, 51, 52]
def bpX1_init : List Nat := [0, 1, 4, 5, 6, 9, 10, 11, 14, 15, 18, 19, 20, 23, 26, 27, 29, 31, 34, 35]
def bpX1_answer : List Nat := [0, 1, 4, 5, 6, 9, 10, 11, 12, 13, 14, 17, 18, 19, 22, 23, 24, 27, 28, 29, 32, 33, 34, 37, 38, 41, 42, 45, 46, 49, 50, 53, 56, 57, 59, 61, 62, 65, 66, 69, 70, 73, 74, 77, 78, 81, 84, 87, 88, 124, 125, 128, 129, 130, 133, 134, 135, 138, 139, 140, 143, 144, 145, 148, 150, 153, 154, 155, 156, 159, 161, 164, 167, 168]
def bpX1_startsBelow : List Nat := [0, 1, 2, 3, 4, 5, 6, 9, 10, 11, 14, 15, 18, 19, 20, 23, 26, 27, 28]
def bpX1_drawDeed : List Nat := [0, 1, 2, 5, 6, 7, 10, 11, 14, 17, 20, 21, 22, 25, 26, 27, 28, 31, 34, 35, 38, 39, 42, 43, 44, 46, 49, 92, 93, 94, 97, 100, 101, 102, 105, 106, 107, 108, 111, 114, 115, 116, 117, 120, 123, 126, 129, 132, 133, 134, 137, 138, 139, 140, 143, 146, 149, 152, 155, 156, 157, 160, 161, 164, 167, 170, 171, 172, 175, 178, 179, 181, 184, 185]
def bpX1_attempt : List Nat := [0, 1, 3, 6, 7, 8, 11, 12, 15, 16, 19, 20, 23, 26, 29, 30, 31, 34, 35, 38, 39, 42, 43, 46, 47, 49, 52, 53, 56, 57, 58, 59, 62, 63, 64, 66, 69, 70, 71, 74, 75, 76, 79, 82, 83, 86, 89, 90, 91, 94, 95]
def bpX1_tally : List Nat := [0, 1, 2, 5, 6, 7, 10, 11, 12, 15, 16, 17, 18, 21, 22, 23, 26, 27, 28, 31, 32, 33, 36, 37, 38, 41, 44, 45, 48, 49, 52, 53, 54, 57, 58, 59, 62, 63, 66, 67, 68, 71, 72]
def bpX1_draw : List Nat := [0, 1, 2, 5, 8, 9, 12, 13, 16, 17, 20, 21, 24, 25, 28, 31, 32, 33, 34, 35, 36, 39, 40, 41]
def bpX2_init : List Nat := [0, 1, 4, 5, 6, 9, 10, 12, 14, 17, 19, 20, 21, 23, 26, 27, 28, 31, 34, 37, 40, 41, 43, 44, 47, 48]
def bpX2_cell : List Nat := [0, 1, 4, 5, 6, 9, 10, 13, 14, 17, 18, 19, 22, 23, 24]
def bpX2_setCell : List Nat := [0, 1, 4, 5, 6, 9, 10, 13, 14, 17, 18, 19, 20, 21]
def bpX2_turnBit : List Nat := [0, 1, 2, 3, 4, 7, 8, 9, 10, 11, 14, 15, 16, 19, 20]
def bpX2_takeFrom : List Nat := [0, 1, 4, 5, 6, 9, 10, 12, 15, 16]
def bpX2_saveTo : List Nat := [0, 1, 4, 5, 6, 7, 9, 12, 13]
def bpX2_loadFrom : List Nat := [0, 1, 2, 3, 6, 7, 9, 12, 13]
def bpX2_putImage : List Nat := [0, 1, 4, 7, 8, 10, 11, 12, 15, 16, 18, 19, 21, 24, 25]
def bpX2_holdsImage : List Nat := [0, 1, 2, 3, 5, 8, 9, 10, 12, 13, 14, 15, 18, 19, 22, 25, 26, 28, 29, 30, 31, 34, 37, 38, 39, 42, 45, 46, 47]
def bpX2_isOn : List Nat := [0, 1, 3, 6, 7, 10, 11, 14, 15, 16]
def bpX2_turnOff : List Nat := [0, 1, 3, 4, 7, 8]
def bpX2_isWhole : List Nat := [0, 2, 3, 5, 6, 7, 8, 9, 10, 11, 13, 15, 17, 20, 21, 23, 24, 25, 26, 27, 29, 30, 33, 34, 35, 36, 39, 42, 43, 44, 47, 50, 53, 54, 55, 57, 58, 61, 64, 65, 66, 67, 69, 70, 73, 74, 75, 78, 79, 82, 83, 84]
def bpX2_sequence : List Nat := [0, 1, 3, 4, 6, 7, 8, 9, 10, 13, 14]
def bpX2_newestPage : List Nat := [0, 1, 2, 5, 6, 7, 8, 11, 12, 13, 16, 17, 20, 21, 22, 25, 26, 27, 30, 31, 32, 35, 36, 39, 40, 43, 44, 45, 46, 49, 50, 51, 52, 55, 56, 59, 60, 61]
def bpX2_readFlags : List Nat := [0, 1, 2, 5, 8, 9, 12, 13, 16, 17, 18, 19, 20, 21, 24, 25, 27, 28, 31, 33, 34, 35, 36, 37, 38, 39, 40, 41, 44, 45, 46, 47, 48, 51, 52, 53, 54, 55, 58, 59, 60, 61, 62, 65, 68, 69]
def bpX2_takeFlags : List Nat := [0, 1, 2, 5, 6, 7, 10, 11, 12, 15, 16, 18, 21, 22]
def bpX2_slotFlags : List Nat := [0, 1, 4, 5, 8, 11, 12, 15, 16]
def bpX2_setSlotFlags : List Nat := [0, 1, 4, 5, 6, 9, 12, 13, 14, 17, 18]
def bpX2_flagsAsOne : List Nat := [0, 1, 4, 5, 8, 10, 11, 12, 15, 17, 18, 19, 20, 23, 25, 26, 27, 28, 31, 32, 33]
def bpX2_putFlags : List Nat := [0, 1, 2, 3, 4, 6, 9, 11, 13, 15, 17, 20, 21, 23, 26, 29, 32, 35, 36, 37, 40, 41, 42, 45, 46, 49, 50]
def bpX2_writeFlags : List Nat := [0, 1, 4, 7, 8, 11, 12, 13, 14, 17, 18, 21, 22, 25, 26, 27, 30, 33, 34, 35, 38, 39, 40, 42, 43, 45, 46, 47, 48, 51, 52, 53, 54, 55, 56, 57, 60, 61, 62, 63, 64, 67, 68, 69, 70, 71, 74, 75, 76, 78, 79, 82, 83, 84, 86, 87, 88, 90, 93, 96, 97, 98, 99, 102, 105, 106, 107, 108, 109, 110, 111, 114, 115, 116, 117, 118, 119, 120, 123, 126, 127, 128, 129, 130, 131, 132, 135, 138, 139, 140, 141, 142, 143, 144, 147, 150, 151, 152, 153, 154, 155, 156, 159, 162, 163, 164, 166, 167, 168, 170, 173, 174, 177, 178, 179, 181, 182, 183, 185, 188, 189, 192, 193, 194, 197, 198]
def bpX2_write : List Nat := [0, 1, 4, 5, 8, 9, 12, 13, 16, 19, 20, 21, 24, 25, 26, 27, 30, 31, 32, 35, 36, 38, 40, 41, 42, 43, 46, 48, 51, 53, 54, 57, 58, 61, 62, 65, 67, 68, 69, 72, 75, 76]
def bpX2_isRevoked : List Nat := [0, 1, 2, 3, 4, 5, 7, 10, 11, 14, 15, 17, 20, 21, 22, 23, 24, 25, 28, 29, 30, 31, 34, 37, 38, 41, 42, 45, 48, 49, 50]
def bpX2_version : List Nat := [0, 1, 2, 4, 5, 8, 9, 10, 11]
def bpX2_reasonAgainst : List Nat := [0, 1, 3, 4, 5, 6, 7, 10, 11, 12, 13, 14, 15, 18, 20, 21, 22, 23, 24, 27, 29, 30, 33, 34, 36, 39, 40, 43, 45, 48, 51, 53, 54, 57, 59, 60, 63, 64, 65, 66, 67, 68, 69, 72, 73, 76, 77, 80, 81, 84, 87, 88, 89, 90, 91, 94, 96, 99, 100, 101, 102, 104, 107, 110, 111, 112, 113, 114, 116, 119, 122, 123, 124, 125, 126, 128, 131, 134, 135, 138, 139, 140]
def bpX2_hasSoundParts : List Nat := [0, 1, 2, 3, 4, 7, 8, 9, 11, 13, 14, 17, 18, 19, 21, 22, 23, 25, 26, 27, 30, 32, 33, 34, 36, 37, 38, 40, 41, 42, 45, 47, 50, 51, 54, 55, 56, 58, 59, 62, 65, 66, 69, 70, 73, 74, 75]
def bpX2_recoveryCopy : List Nat := [0, 1, 2, 5, 8, 9, 12, 13, 14, 15, 16, 19, 22, 23, 26, 27, 28, 29, 32, 33, 36, 37, 38, 41, 42, 43, 46, 49, 50, 53, 54, 55, 56, 59, 60, 61, 62, 65, 66, 69, 70, 71]
def bpX2_isJournalOpen : List Nat := [0, 1, 3, 6, 7, 8, 10, 13, 14, 15, 17, 20, 21, 22, 24, 27, 28, 30, 33, 34, 35, 36, 37, 38, 41, 42, 45, 46, 49, 52, 53, 56, 57, 60, 63, 64, 67, 68, 69]
def bpX2_isAble : List Nat := [0, 1, 3, 6, 8, 9, 12, 14, 15, 18, 19, 22, 23, 24, 27, 28, 31, 32, 35, 36, 37, 39, 40, 43, 44, 45, 46, 84, 85, 88, 89, 92, 93, 96, 97, 98, 99, 102, 105, 106, 108, 111, 112, 115, 116, 119, 122, 123, 126, 127, 128, 129, 132, 133, 136, 137, 140, 143, 144, 147, 148, 149, 150, 153, 156, 157, 160, 161, 164, 165, 166, 167, 170, 171, 174, 175, 178, 181, 182, 184, 187, 189, 192, 193, 196, 197, 198, 199, 200]
def bpX2_perform : List Nat := [0, 1, 3, 6, 7, 8, 11, 12, 13, 16, 17, 20, 21, 23, 24, 68, 69, 70, 71, 74, 75, 78, 79, 82, 84, 86, 87, 90, 91, 92, 95, 98, 100, 103, 104, 107, 109, 112, 113, 114, 115, 118, 119, 120, 121, 124, 126, 129, 130, 131, 134, 135, 138, 140, 143, 144, 145, 148, 149, 152, 153, 154, 155, 156, 159, 160, 161, 163, 166, 167, 170, 172, 175, 176, 177, 179, 182, 183, 185, 188, 191, 193, 196, 197, 199, 200, 203, 206, 207, 210, 213, 214, 217, 219, 220, 222, 223]
def bpX2_startSlot : List Nat := [0, 1, 4, 5, 8, 9, 12, 15, 18, 19, 20, 21, 22, 23, 24, 27, 28, 31, 32, 33, 34, 37, 38, 39, 40, 41, 44, 47, 48, 49, 52, 53, 56, 57, 58, 59, 60, 63, 66, 67, 68, 69, 70, 71, 74, 75, 78, 81, 84, 85, 86]
def bpX2_chosenSlot : List Nat := [0, 1, 4, 7, 8, 9, 12, 15, 16, 17, 20, 21, 24, 25, 26, 27, 28, 31, 32, 35, 36, 37]
def bpX2_standing : List Nat := [0, 1, 3, 4, 7, 8, 11, 12, 13, 14, 15]
def bpX2_countTry : List Nat := [0, 1, 2, 5, 6, 7, 8, 9, 12, 13, 14, 15, 16, 17, 20, 21, 22, 25, 26, 27, 30, 33, 36, 37, 38, 41, 42]
def bpX2_startRecovery : List Nat := [0, 1, 2, 5, 6, 7, 8, 9, 12, 13, 16, 17, 18, 19, 20, 23, 26, 27, 28]
def bpX2_noteStart : List Nat := [0, 1, 4, 7, 8, 9, 11, 14, 15, 17, 18, 19, 21, 22, 23, 24, 26, 27, 29, 30, 33, 34, 36, 37, 38, 39, 42, 43, 45, 46, 47, 48, 51, 52, 54, 55, 58, 59, 61, 62, 65, 66, 68, 69, 72, 73]
def bpX2_tellHealth : List Nat := [0, 1, 3, 6, 7, 8, 9, 12, 13, 16, 19, 20, 21, 22, 23, 26, 29, 30, 31, 32, 35, 38, 39, 40, 41, 42, 45, 46, 49, 50, 53, 56, 57, 58, 59, 62, 65, 66, 67, 68, 70, 71, 72, 73, 76, 79, 80, 83, 86, 87, 89, 90, 93, 94, 96, 99, 100]
def bpX2_blowVersionFuses : List Nat := [0, 1, 3, 6, 7, 8, 10, 13, 14, 15, 16, 19, 20, 22, 23, 24, 25, 26, 29, 32, 35, 36]
def bpX2_blowKeyFuses : List Nat := [0, 1, 2, 3, 5, 8, 9, 10, 11, 12, 13, 15, 18, 20, 21, 22, 23, 26, 28, 29, 30, 33, 34, 36, 37, 39, 40, 41, 44, 47, 50, 51]
def bpX2_openJournal : List Nat := [0, 1, 3, 4, 5, 8, 9, 11, 12, 13, 16, 17, 19, 20, 21, 24, 25, 27, 28, 29, 30, 31, 33, 34, 37, 38, 41, 42, 44, 45, 47, 50, 51]
def bpX2_finishInstall : List Nat := [0, 1, 2, 3, 6, 7, 10, 11, 12, 13, 16, 19, 20, 22, 23, 26, 27, 28, 29, 30, 33, 36, 37, 40, 41, 42, 45, 46, 49, 50, 52, 53, 54, 57, 58, 61, 62]
def bpX2_favour : List Nat := [0, 1, 2, 5, 6, 7, 10, 12, 13, 14, 17, 18, 19, 20, 21, 24, 25, 26, 29, 32, 33, 34, 35, 36, 37, 39, 40, 43, 44]
def bpX2_refreshOther : List Nat := [0, 1, 2, 5, 6, 9, 10, 11, 12, 13, 14, 17, 20, 21, 23, 24, 27, 28, 29]
def bpX2_mendBoth : List Nat := [0, 1, 2, 3, 4, 7, 8, 9, 12, 15, 16, 19, 20, 21, 22, 23, 26, 29, 30, 33, 34, 35, 36, 37, 40, 43, 44, 47, 48, 49, 50, 51, 54, 55, 58, 59, 62, 63, 65, 66, 69, 70, 73, 74, 76, 77, 79, 80, 83, 85, 87, 88, 91, 94, 95, 96]
def bpX2_lay : List Nat := [0, 1, 3, 4, 6, 7, 9, 10, 11, 14, 16, 18, 20, 23, 24, 26, 28, 29, 30, 31, 32, 34, 35, 38, 41, 44, 47, 48]
def bpX2_passTicks : List Nat := [0, 1, 2, 3, 4, 5, 6, 9, 10, 13, 16, 17, 19, 22, 23, 24, 26, 27, 29, 31, 34, 35, 37, 40, 43, 46, 47, 49, 52, 55, 57, 58, 61, 64, 67, 68, 71, 72, 73, 74, 75, 76, 79, 80, 81, 83, 84, 87, 90, 93, 96, 97, 98]
def bpX3_init : List Nat := [0, 1, 4, 5, 6, 9, 10, 13, 15, 18, 19]
def bpX3_keep : List Nat := [0, 1, 4, 5, 8, 9, 12, 14, 15, 18, 19, 20, 23, 24, 25, 27, 28, 31, 32, 33, 36, 37, 38, 40, 43, 46, 47]
def bpX3_bringBack : List Nat := [0, 1, 4, 7, 8, 9, 10, 11, 14, 16, 17, 18, 19, 21, 22, 25, 26, 27, 30, 31, 32, 35, 36, 39, 40, 43, 44, 47, 49, 50, 53, 54, 57, 58]
def bpX3_forget : List Nat := [0, 1, 2, 5, 6]
def bpX4_init : List Nat := [0, 1, 4, 5, 6, 9, 10, 11, 14, 15]
def bpX4_read : List Nat := [0, 1, 2, 5, 6, 7, 10, 11, 12, 15, 16, 17, 20, 21, 22, 25, 26, 27, 30, 31, 32, 35, 36, 39, 42, 43, 44, 45, 46, 49, 52, 53, 56, 59, 60, 63, 64, 65, 66, 69, 70, 71, 74, 75, 78, 79, 82, 83, 86, 89, 90, 91, 92, 93, 96, 99, 101, 104, 105, 106, 109, 110, 113, 114, 115, 118, 119, 120, 121, 124, 125, 126, 129, 132, 135, 136, 139, 140]
def bpX4_readLine : List Nat := [0, 1, 4, 5, 8, 9, 10, 12, 15, 18, 19, 20, 23, 24, 25, 27, 30, 33, 34, 35, 38, 39, 40, 42, 45, 48, 49, 50, 53, 54, 55, 57, 60, 63, 64, 65, 68, 69, 70, 72, 75, 78, 79, 80, 83, 84, 85, 86, 87, 90, 91]
def bpX4_readKey : List Nat := [0, 1, 4, 7, 9, 12, 13, 14, 15, 18, 19, 20, 21, 24, 27, 30, 31, 32, 33, 36, 37, 38, 39, 40, 42, 45, 48, 49, 50, 51, 54, 57, 58, 59, 62, 65, 66, 67, 68, 71, 72, 73, 76, 77, 78, 81, 82, 83]
def bpX4_readImage : List Nat := [0, 1, 4, 7, 9, 12, 13, 14, 15, 18, 19, 20, 21, 23, 26, 29, 30, 31, 32, 35, 36, 37, 38, 39, 42, 45, 46, 47, 50, 53, 54, 55, 56, 59, 60, 61, 63, 66, 69, 70, 73, 76, 77, 79, 81, 82, 85, 86, 87, 88, 90, 93, 96, 97, 98, 101, 102, 105, 106, 107, 110, 112, 114, 115, 118, 119, 120, 121, 124, 125, 126, 128, 130, 133, 134, 135]
def bpX4_readRevoked : List Nat := [0, 1, 2, 3, 4, 5, 6, 9, 10, 11, 12, 15, 18, 19, 20, 23, 26, 27, 28, 29, 30, 33, 34, 35, 38, 39, 42, 43, 44, 45, 46, 47, 48, 51, 52, 53, 54, 55, 58, 59, 60, 63, 66, 68, 71, 72, 73, 74, 75, 78, 79, 80, 83, 86, 89, 90, 91]
def bpX4_readParts : List Nat := [0, 1, 2, 3, 4, 7, 8, 9, 11, 14, 17, 18, 19, 20, 21, 24, 25, 26, 29, 30, 33, 34, 35, 36, 37, 40, 43, 44, 47, 50, 52, 53, 55, 56, 57, 58, 59, 60, 61, 64, 67, 68, 71, 72, 73, 76, 79, 82, 85, 86, 87, 88, 89, 92, 95, 96, 97]
def bpX4_readLimit : List Nat := [0, 1, 4, 7, 8, 9, 10, 13, 14, 15, 16, 19, 20, 21, 23, 26, 29, 30, 31, 32, 35, 36, 39, 42, 43, 44]
def bpX4_readTries : List Nat := [0, 1, 4, 7, 8, 9, 10, 13, 14, 15, 16, 19, 20, 21, 23, 26, 29, 30, 31, 32, 35, 36, 39, 42, 43, 44]
def bpX4_readWatch : List Nat := [0, 1, 4, 7, 8, 9, 10, 13, 14, 15, 16, 19, 20, 21, 23, 26, 29, 30, 31, 32, 35, 36, 39, 42, 43, 44]
def bpX4_takeWord : List Nat := [0, 1, 4, 5, 6, 7, 8, 11, 14, 15, 16, 19, 20, 21, 24, 25, 26, 29, 32, 33, 34, 37, 40, 41, 42, 45, 46, 49, 50, 53, 56, 59, 60, 61, 62, 63, 66, 67, 70, 71, 74, 75, 76]
def bpX4_takeNumber : List Nat := [0, 1, 4, 5, 6, 9, 12, 13, 14, 17, 20, 23, 26, 27, 28, 31, 32, 35, 36, 37, 38, 41, 42, 45, 46, 49, 52, 53, 54, 57, 60, 63, 66, 67, 68, 71, 73, 74, 75, 76, 79, 82, 83, 85, 86, 88, 91, 94, 95, 96, 99, 100, 101, 104, 107, 108, 111, 112, 115, 116, 119, 120, 123, 124, 125, 128, 129, 132, 133, 134, 135]
def bpX4_skipBlanks : List Nat := [0, 1, 4, 5, 8, 11, 12, 13, 16, 19, 21, 24, 25, 26, 29, 30, 31, 34, 37, 38]
def bpX4_byteAt : List Nat := [0, 1, 4, 5, 6, 9, 12, 13, 14, 17, 18, 21, 22, 25, 26, 27, 30, 31, 32]
def bpX4_fail : List Nat := [0, 1, 3, 4, 5, 6, 7, 10, 11, 12]
def bpX4_isLetter : List Nat := [0, 1, 3, 6, 7, 9, 12, 13, 16, 17, 18]
def bpX4_isDigit : List Nat := [0, 1, 3, 6, 7, 9, 12, 13, 16, 17, 18]
def bpX5_init : List Nat := [0, 1, 4, 5, 6, 9, 10, 11, 14, 15, 18, 19, 20, 23, 26, 27, 30, 32, 35, 36, 39, 41, 44, 45, 48, 50, 53, 54, 57, 59, 62, 63, 66, 68, 71, 72, 74, 76, 79, 80]
def bpX5_moveOrLength : List Nat := [0, 1, 2, 5, 6, 9, 10, 11, 12, 15, 18, 19, 20, 23, 24, 25, 26, 27, 30, 33, 35, 36]
def bpX5_moveAt : List Nat := [0, 1, 4, 5, 6, 9, 10, 11, 13, 15, 16, 19, 20, 23, 24, 27, 28, 29, 32, 33, 36, 37, 40, 43, 44, 45]
def bpX5_isThere : List Nat := [0, 1, 4, 6, 9, 10, 11, 14, 17, 18, 21, 23, 26, 27, 30, 31, 34, 35, 38, 39, 42, 43, 46, 47, 48]
def bpX5_search : List Nat := [0, 1, 4, 5, 8, 11, 12, 13, 16, 17, 18, 21, 24, 25, 26, 27, 30, 31, 34, 35, 38, 39, 40, 43, 44, 45, 46, 47, 50, 51, 52, 55, 56, 57, 58, 59, 60, 61, 62, 65, 68, 69, 72, 75, 76, 79, 80, 82, 84, 85, 88, 89, 92, 93, 94, 96, 97, 100, 101, 104, 107, 108, 110, 112, 113, 114, 117, 120, 121, 124, 125, 128, 130, 131, 134, 137, 140, 141, 144, 145, 147, 148, 149, 151, 153, 155, 156, 157, 159, 160, 162, 163, 166, 169, 170, 171, 172, 175, 176, 179, 182, 185, 188, 189, 190]
def bpX5_findAlike : List Nat := [0, 1, 2, 3, 4, 7, 8, 9, 10, 11, 14, 17, 20, 21, 24, 25, 27, 28, 29, 30, 31, 32, 33, 36, 39, 42, 45, 48, 51, 52]
def bpX5_firstAlike : List Nat := [0, 1, 4, 5, 6, 9, 12, 13, 14, 15, 18, 19, 20, 23, 24, 25, 26, 27, 30, 31, 34, 35, 36, 39, 42, 43, 44, 45, 46, 49, 52, 53, 54, 55, 56]
def bpX5_step : List Nat := [0, 1, 4, 5, 6, 9, 10, 13, 14, 17, 18, 19, 22, 23, 25, 27, 29, 30, 33, 34, 35, 37, 38, 40, 43, 44, 46, 47, 49, 50, 53, 54, 56, 58, 59, 62, 63, 66, 67, 68, 69, 72, 73, 76, 77, 80, 82, 84, 87, 89, 90, 93, 94, 95, 96, 98, 101, 103, 104, 106, 109, 111, 113, 114, 116, 119, 121, 122, 125, 126, 129, 132, 135, 136, 137, 140, 141, 144, 145, 146, 147, 148, 151, 152, 155, 156, 157, 160, 161, 164, 165, 166, 167, 168, 171, 172, 175, 176, 178, 179, 181, 182, 184, 185, 188, 189, 191, 193, 194, 197, 198, 200, 203, 204, 207, 209, 212, 215, 217, 219, 221, 222, 225, 226, 229, 231, 233, 234, 237, 240, 242, 244, 245, 246, 249, 252, 253, 254, 257, 258, 259, 262, 263, 264, 267, 268, 271, 272, 273, 276, 277, 278, 279, 280, 282, 284, 287, 288, 289, 292, 293]
def bpX5_part : List Nat := [0, 1, 2, 3, 4, 5, 6, 7]
def bpX5_pack : List Nat := [0, 1, 4, 7, 8, 11, 13, 16, 17, 18, 19, 22, 23, 26, 27, 30, 32, 35, 36, 38, 39, 40, 41, 42, 43, 44, 47, 48, 51, 53, 54, 55, 56, 59, 60, 63, 65, 66, 67, 68, 69, 72, 75, 76, 78, 79, 80, 81, 84, 87, 88, 90, 91, 92, 93, 96, 98, 101, 102, 104, 105, 106, 107, 110, 112, 115, 116, 118, 119, 120, 121, 122, 123, 124, 126, 127, 128, 130, 132, 133, 134, 135]
def bpX5_unpack : List Nat := [0, 1, 4, 5, 8, 11, 12, 13, 14, 15, 18, 19, 20, 21, 22, 24, 27, 29, 31, 34, 35, 38, 39, 41, 42, 43, 46, 49, 52, 53, 56, 57, 59, 62, 65, 66, 68, 71, 74, 75, 77, 80, 83, 84, 86, 89, 92, 95, 96, 99, 101, 102, 104, 106, 109, 112, 113, 116, 118, 119, 121, 123, 126, 129, 130, 133, 135, 136, 138, 139, 142, 143, 144, 147, 148, 151, 153, 154, 156, 157, 160, 163, 164]
def bpX5_add : List Nat := [0, 1, 4, 5, 7, 8, 9, 11, 12, 14, 16, 19, 22, 23, 26, 28, 31, 32, 33, 35, 37, 40, 42, 43, 46, 47, 50, 53, 54, 57, 59, 60, 61, 62, 65, 66, 67, 69, 70, 71, 74, 75, 77, 80, 83, 84, 87, 90, 91, 94, 95, 98, 99, 102, 103, 104, 105, 108, 109, 112, 113, 114, 115, 118, 119, 122, 123, 126, 127, 130, 131, 134, 136, 139, 140, 143, 144, 147, 148, 151, 154, 155, 158, 159, 162, 163, 166, 167, 168, 171, 172, 173, 176, 177, 178, 181, 182, 185, 187, 188, 191, 194, 195, 196]
def bpX6_at : List Nat := [0, 1, 4, 5, 8, 9, 10, 11, 14, 15, 16, 17, 20, 21, 22]
def bpX6_put : List Nat := [0, 1, 4, 5, 8, 9, 10, 11, 14, 15, 16, 17, 18, 19]
def bpX6_copy : List Nat := [0, 1, 4, 5, 8, 10, 13, 14, 17, 18, 21, 22, 23, 24, 25, 27, 28, 31, 32, 33, 34, 36, 37, 40, 41, 42, 43, 44, 46, 49, 50]
def bpX7_init : List Nat := [0, 1, 4, 5, 6, 9, 10, 13, 14, 15, 18, 21, 22, 25, 26, 27, 30, 33, 34]
def bpX7_nextStart : List Nat := [0, 1, 4, 5, 8, 11, 12, 15, 18, 19, 22, 23, 24, 27, 28, 31, 32, 33, 34, 37, 38]
def bpX7_writesOf : List Nat := [0, 1, 4, 5, 8, 11, 12, 15, 16, 17, 18, 19, 22, 23, 24, 27, 29, 32, 33]
def bpX7_countCuts : List Nat := [0, 2, 5, 7, 9, 12, 13, 16, 17, 18, 19, 22, 25, 26, 27, 28, 29, 30, 31, 34, 36, 38, 41, 43, 44, 46, 47, 50, 51, 54, 57, 60, 61, 64, 67, 69, 70, 72, 73, 75, 77, 79, 82, 83, 86, 87, 90, 93, 94, 97, 98, 99, 100, 102, 105, 106, 108, 109, 112, 113, 116, 119, 121, 124, 125, 128, 129, 132, 133, 136, 137, 138, 139, 140, 143, 145, 146, 147, 150, 151, 154, 155, 157, 159, 161, 164, 165, 168, 169, 170, 172, 175, 178, 180, 181]
def bpX7_countTwos : List Nat := [0, 1, 4, 5, 6, 7, 10, 13, 14, 15, 16, 17, 18, 19, 22, 24, 25, 27, 28, 30, 32, 34, 37, 38, 41, 42, 45, 48, 49, 52, 53, 54, 55, 57, 60, 61, 63, 64, 67, 68, 70, 73, 76, 78, 79]
def bpX7_countDeadBoots : List Nat := [0, 1, 4, 5, 8, 11, 12, 15, 16, 17, 18, 19, 22, 23, 24, 27, 29, 32, 33, 34, 35, 36, 37, 38, 39, 42, 43, 46, 47, 50, 53, 54, 57, 58, 59, 60, 61, 64, 65, 66, 69, 70, 71, 72, 73, 76, 77, 80, 83, 86, 89, 90, 91]
def bpX7_bootsWithoutHealth : List Nat := [0, 1, 4, 5, 6, 9, 10, 11, 12, 15, 16, 19, 22, 23, 24, 25, 27, 30, 31, 34, 37, 38, 41, 42, 43, 44, 45, 48, 49, 50, 51, 54, 55, 58, 59, 62, 63, 64, 67, 70, 72, 73]
def bpX7_slackBits : List Nat := [0, 1, 4, 5, 8, 11, 12, 13, 14, 16, 17, 18, 19, 20, 21, 22, 24, 25, 28, 29, 31, 33, 35, 38, 39, 42, 43, 45, 48, 49, 50, 51, 54, 55, 58, 61, 62, 65, 66, 67, 68, 69, 72, 73, 75, 78, 79, 82, 85, 88, 91, 92, 93]
def bpX7_frailBits : List Nat := [0, 1, 4, 5, 6, 9, 10, 11, 12, 13, 16, 17, 18, 21, 24, 25, 26, 28, 30, 32, 34, 36, 39, 40, 42, 44, 46, 49, 50, 53, 54, 57, 60, 61, 64, 67, 68, 71, 73, 75, 78, 79, 80, 83, 84, 87, 88, 89, 90, 91, 94, 95, 98, 99, 102, 103, 106, 107, 110, 113, 114, 117, 118, 121, 122, 124, 126, 128, 131, 132, 135, 136, 137, 139, 142, 145, 148, 151, 153, 154]
def bpX8_init : List Nat := [0, 1, 4, 7, 9, 10, 13, 14, 17, 18, 21, 22, 25, 26, 29, 30, 31, 34, 36, 37, 38, 41, 42, 43, 46, 47, 50, 51, 52, 53, 56, 59, 60, 61, 64, 65, 67, 70, 71, 74, 75, 77, 80, 83, 84, 87, 88, 89, 91, 94, 97, 98, 101, 102, 103, 105, 108, 111, 112, 115, 116, 117, 119, 122, 125, 126]
def bpX8_feed : List Nat := [0, 1, 4, 7, 10, 11, 12, 13, 14, 17, 18, 19, 22, 23, 24, 27, 28, 30, 33, 34, 36, 39, 40, 43, 44]
def bpX8_feedNumber : List Nat := [0, 2, 3, 4, 7, 8, 11, 12, 15, 16, 17, 18, 21, 22, 25, 26, 27, 30, 31, 32, 35, 38, 41, 42]
def bpX8_end : List Nat := [0, 1, 4, 5, 6, 9, 12, 13, 14, 15, 16, 19, 20, 21]
def bpX8_bundle : List Nat := [0, 1, 4, 5, 6, 7, 10, 11, 14, 15, 18, 19, 20, 21, 24, 26, 27, 28, 29, 30, 33, 34, 37, 40, 41, 44, 47, 48, 51, 54, 55]
def bpX8_image : List Nat := [0, 1, 4, 5, 8, 11, 12, 15, 16, 18, 21, 22, 23, 24, 27, 30, 31, 33, 34, 35, 36, 39, 40]
def bpX8_factory : List Nat := [0, 1, 4, 7, 10, 11, 14, 15, 18, 21, 22, 23, 24, 27, 30, 31, 34, 35, 36, 39, 40, 43, 44, 45, 48, 49, 50]
def bpX8_boot : List Nat := [0, 1, 2, 3, 6, 7, 10, 11, 12, 13, 16, 17]
def bpX8_health : List Nat := [0, 1, 2, 3, 4, 5, 8, 9]
def bpX8_install : List Nat := [0, 1, 2, 3, 4, 5, 8, 9]
def bpX8_refresh : List Nat := [0, 1, 2, 3, 4, 5, 8, 9]
def bpX8_prefer : List Nat := [0, 1, 2, 3, 4, 5, 8, 9]
def bpX8_mend : List Nat := [0, 1, 2, 3, 4, 5, 8, 9]
def bpX8_resume : List Nat := [0, 1, 3, 4, 5, 6, 9, 10]
def bpX8_act : List Nat := [0, 2, 3, 6, 7, 10, 11, 12, 13, 16, 19, 20, 21, 22, 25, 28, 29, 32, 33, 34, 35, 37, 40, 41]
def bpX8_waits : List Nat := [0, 1, 2, 5, 6, 9, 12, 13, 16, 19, 22, 23, 24, 25, 28, 31, 32, 35, 36, 39, 40]
def bpX8_off : List Nat := [0, 1, 4, 7, 10, 11, 12, 13, 16, 19, 20, 23, 26, 27, 28]
def bpX8_flip : List Nat := [0, 1, 4, 7, 8, 11, 12, 14, 17, 18, 21, 22, 24, 27, 28, 29, 30, 33, 36, 37, 40, 41, 43, 44, 45, 46, 47, 50, 51]
def bpX8_blot : List Nat := [0, 1, 4, 7, 8, 11, 12, 14, 17, 18, 21, 22, 24, 27, 28, 29, 30, 33, 36, 37, 40, 42, 43, 45, 46, 47, 48, 49, 50, 53, 54]
def bpX8_undo : List Nat := [0, 1, 4, 7, 8]
def bpX8_word : List Nat := [0, 1, 4, 7, 8, 11, 12, 14, 17, 18, 19, 20, 23, 24, 26, 27, 28, 29, 32, 33]
def bpX8_octet : List Nat := [0, 1, 4, 7, 8, 11, 12, 14, 17, 18, 19, 20, 23, 25, 26, 28, 29, 30, 31, 32, 35, 36]
def bpX8_journal : List Nat := [0, 1, 4, 5, 6, 9, 10, 11, 12, 15, 17, 18, 19, 22, 23]
def bpX8_revoked : List Nat := [0, 1, 4, 5, 8, 11, 12, 13, 14, 17, 18, 21, 24, 25, 28, 29, 30]
def bpX8_whole : List Nat := [0, 1, 4, 7, 8, 9, 10, 13, 14, 17, 20, 21, 24, 25, 26]
def bpX8_flag : List Nat := [0, 1, 4, 7, 8, 9, 10, 13, 16, 17, 20, 21, 24, 25, 26, 52, 53, 54, 55, 56, 57, 58, 59, 61, 62, 63, 64, 65, 66, 67, 68, 69]
def bpX8_why : List Nat := [0, 1, 4, 7, 8, 11, 12, 15, 18, 19, 20]
def bpX8_next : List Nat := [0, 1, 4, 5, 8, 9]
def bpX8_cuts : List Nat := [0, 1, 4, 5, 6, 7, 9, 12, 13]
def bpX8_twice : List Nat := [0, 1, 4, 5, 6, 7, 10, 11]
def bpX8_lasts : List Nat := [0, 1, 4, 5, 8, 9]
def bpX8_slack : List Nat := [0, 1, 4, 7, 8, 11, 12, 15, 18, 19, 20]
def bpX8_frail : List Nat := [0, 1, 4, 5, 8, 9]
def bpX8_route : List Nat := [0, 1, 4, 5, 7, 10, 11, 12, 15, 16, 17, 18, 21, 22, 25, 26, 27, 28, 31, 32, 35, 36, 39, 40, 41, 42, 45, 47, 50, 52, 53]
def bpX8_draws : List Nat := [0, 1, 4, 5, 6, 7, 10, 11, 12, 13, 16, 17, 18]
def bpX8_life : List Nat := [0, 1, 2, 5, 6, 8, 11, 12, 15, 18, 21, 22, 23, 24, 27, 28, 29, 30, 33, 36, 37]
def bpX8_started : List Nat := [0, 1, 4, 6, 9, 10, 11, 14, 15, 17, 20, 21, 22, 25, 26, 29, 30, 31, 34, 35, 36, 37, 40, 42, 43, 44, 45, 46, 47, 48, 50, 51, 52, 53, 54, 55, 58, 59]
def bpX8_least : List Nat := [0, 1, 4, 5, 6, 9, 10, 11, 12, 15, 16, 19, 22, 23, 26, 27, 28, 29, 32, 33, 36, 39, 40, 43, 44, 45, 46, 49, 50, 53, 55, 56, 57, 60, 61, 64, 65, 68, 69, 72, 74, 75, 78, 79, 82, 83, 86, 87, 90, 92, 93, 96, 98, 100, 103, 106, 108, 110, 113, 114]
def bpX8_count : List Nat := [0, 1, 92, 93, 96, 99, 100, 101, 104, 107, 108, 109, 112, 115, 116, 117, 120, 123, 124, 125, 128, 130, 133, 134, 135, 138, 140, 143, 144, 145, 148, 150, 153, 154, 155, 158, 161, 162, 163, 166, 167, 168, 171, 172, 173, 176, 178, 181, 182, 183, 186, 189, 190, 191, 194, 196, 199, 200, 201, 204, 206, 209, 210, 211, 214, 217, 220, 221, 224, 225, 226, 227, 228, 231, 232]
def bpX8_countOfFlags : List Nat := [0, 1, 4, 7, 8, 40, 41, 44, 47, 48, 49, 52, 55, 56, 57, 60, 63, 64, 65, 68, 71, 72, 75, 76, 79, 80, 83, 84, 87, 90, 93, 94, 95, 96]
def bpX8_isSlot : List Nat := [0, 1, 4, 5, 6, 9, 10, 13, 14, 15]
def bpX8_isPage : List Nat := [0, 1, 4, 5, 6, 9, 10, 13, 14, 15]
def bpX8_isStore : List Nat := [0, 1, 4, 5, 6, 9, 10, 13, 14, 15]
def bpX9_init : List Nat := [0, 1, 4, 5, 8, 10, 13, 14, 16, 18, 21, 22, 24, 26, 29, 30, 32, 34, 37, 38, 40, 42, 45, 46, 48, 50, 53, 54, 56, 58, 61, 62, 63, 65, 66, 67, 68, 69, 70, 71, 72, 73, 74, 75, 76, 77, 78, 79, 80, 81, 82, 83, 85, 86, 89, 90, 91, 93, 96, 97, 99, 101, 104, 105, 108, 110, 113, 114, 117, 119, 122, 123, 125, 127, 130, 131, 133, 135, 138, 139, 141, 143, 146, 147, 149, 151, 154, 155, 157, 159, 162, 163, 166, 168, 171, 172, 175, 177, 180, 181, 184, 186, 189, 190, 193, 195, 198, 199, 200, 201, 203, 206, 207, 210, 212, 213, 214, 217, 218, 221, 224, 225, 228, 230, 231, 232, 233]
def bpX9_in : List Nat := [0, 1, 2, 3, 6, 7, 9, 10, 13, 14, 17, 18, 19]
def bpX9_truth : List Nat := [0, 1, 4, 5, 8, 9, 10]
def bpX9_feed : List Nat := [0, 1, 4, 6, 7, 10, 13, 14, 15, 16, 17, 20, 21, 22, 25, 26, 27, 30, 31, 33, 36, 37, 39, 42, 43, 46, 47]
def bpX9_puts : List Nat := [0, 2, 3, 4, 7, 8, 11, 12, 15, 16, 17, 18, 19, 20, 21, 22, 25, 26, 27, 30, 33, 36, 37]
def bpX9_end : List Nat := [0, 1, 4, 5, 6, 9, 12, 13, 14, 15, 16, 19, 20, 21]
def bpX9_fails : List Nat := [0, 1, 4, 5, 8, 9, 11, 12, 13, 14, 15, 18, 19]
def bpX9_isRight : List Nat := [0, 1, 4, 5, 8, 9, 12, 13, 14]
def bpX9_sign : List Nat := [0, 1, 4, 5, 8, 11, 12, 15, 16, 19, 20, 23, 24, 27, 28, 29]
def bpX9_nextSign : List Nat := [0, 1, 4, 6, 9, 10, 11, 14, 15, 16, 19, 22, 23, 26, 27]
def bpX9_wordOf : List Nat := [0, 1, 44, 46, 47, 49, 50, 52, 53, 55, 56, 58, 59, 61, 62, 64, 65, 67, 68]
def bpX9_wordLength : List Nat := [0, 1, 2, 3, 6, 7, 8, 9, 12, 15, 16, 19, 20, 23, 24, 25, 26, 27, 30, 33, 36, 39, 42, 45, 46, 47]
def bpX9_isWord : List Nat := [0, 1, 4, 5, 6, 9, 10, 13, 16, 19, 20, 23, 24, 25, 26, 27, 28, 29, 32, 35, 38, 39, 42, 43, 46, 47, 50, 51, 52, 53, 54, 57, 58, 61, 64, 65, 68, 69, 70, 73, 76, 77, 78]
def bpX9_takes : List Nat := [0, 1, 4, 7, 8, 9, 12, 15, 16, 19, 20, 21, 22, 23, 26, 27, 30, 31, 34, 37, 40, 41, 42, 45, 46, 47]
def bpX9_isDigit : List Nat := [0, 1, 4, 5, 8, 11, 14, 15]
def bpX9_number : List Nat := [0, 1, 4, 5, 6, 7, 10, 13, 14, 17, 20, 21, 24, 27, 28, 29, 30, 33, 36, 37, 38, 39, 42, 45, 46, 49, 52, 54, 56, 57, 58, 59, 62, 63, 65, 66, 69, 70, 71, 72, 75, 76, 77, 80, 83, 84, 87, 90, 91, 92, 93, 94, 95, 96, 99, 102, 103, 104, 105, 108, 111, 112, 113]
def bpX9_readsKey : List Nat := [0, 1, 4, 6, 9, 10, 11, 12, 15, 16, 19, 20, 23, 24, 25, 28, 31, 32, 33, 36, 37, 40, 41, 42, 45, 48, 49, 50, 51, 54, 55, 56, 59, 62, 63, 64, 65, 66, 69, 70, 71, 74, 75]
def bpX9_digestOf : List Nat := [0, 1, 4, 5, 8, 9, 10, 11, 14, 15, 16, 17]
def bpX9_signOf : List Nat := [0, 1, 3, 4, 5, 6, 7, 9, 11, 12, 15, 16, 19, 20, 21, 22, 24, 25, 26, 27, 28, 31, 32, 33, 36, 39, 40, 41, 42]
def bpX9_readsRevoked : List Nat := [0, 1, 2, 3, 4, 5, 8, 9, 12, 15, 16, 17, 18, 21, 22, 23, 26, 28, 29, 30, 33, 34, 35, 36, 39, 42, 43, 46, 47, 48, 49, 50, 51, 52, 55, 58, 59, 61, 62, 65, 66, 67, 68, 71, 72, 75, 78, 79, 82, 84, 87, 88, 91, 92, 93, 94, 95, 98, 99, 102, 103, 106, 109, 110]
def bpX9_readsParts : List Nat := [0, 1, 2, 3, 4, 5, 8, 9, 12, 15, 16, 17, 19, 22, 24, 25, 26, 29, 30, 31, 32, 35, 38, 39, 42, 45, 46, 49, 50, 52, 53, 54, 55, 56, 57, 59, 60, 63, 64, 67, 68, 69, 72, 75, 76, 79, 82, 83, 86, 87, 88, 91, 92, 95, 96, 97, 98, 99, 100, 101, 103, 104, 105, 106, 108, 110, 113, 114, 117, 118, 120, 121, 122, 124, 125, 126, 128, 129, 130, 133, 134, 136, 137, 138, 140, 141, 142, 143, 144, 146, 147, 150, 152, 155, 158, 159, 162, 163, 164, 165, 167, 168, 169]
def bpX9_readsImage : List Nat := [0, 1, 4, 6, 9, 10, 11, 12, 15, 17, 18, 21, 22, 23, 24, 25, 26, 28, 31, 32, 35, 36, 37, 38, 39, 40, 43, 46, 47, 50, 51, 52, 53, 55, 58, 59, 60, 61, 62, 65, 66, 67, 68, 69, 72, 75, 76, 77, 78, 81, 82, 83, 86, 89, 90, 91, 92, 94, 97, 100, 101, 102, 105, 106, 109, 112, 113, 115, 118, 121, 122, 123, 124, 127, 130, 131, 134, 137, 138, 139, 142, 143, 146, 149, 150, 153, 154, 155, 156, 157, 160, 161, 164, 165, 166, 167, 168, 169, 170, 173, 174, 177, 178, 179, 180, 183, 184, 185, 188, 189]
def bpX9_readsSetting : List Nat := [0, 1, 4, 5, 6, 7, 8, 9, 12, 13, 14, 15, 18, 19, 20, 23, 24, 25, 26, 27, 30, 31, 34, 35, 36, 37, 38, 39, 42, 44, 47, 48, 49, 52, 54, 57, 59, 62, 63, 64]
def bpX9_readsLine : List Nat := [0, 1, 4, 5, 6, 9, 10, 11, 12, 15, 18, 19, 20, 23, 26, 27, 28, 31, 34, 35, 36, 39, 42, 43, 44, 47, 50, 51, 52, 53, 56, 59, 60, 61, 64, 67, 68, 69, 70, 73, 76, 77, 78, 81, 84, 85, 86, 87, 90, 93, 94, 95, 96, 99, 100]
def bpX9_bundle : List Nat := [0, 1, 2, 5, 6, 7, 10, 11, 12, 15, 16, 17, 20, 21, 22, 25, 26, 29, 30, 31, 32, 33, 36, 37, 38, 39, 40, 43, 44, 46, 47, 48, 49, 50, 51, 52, 55, 56, 59, 62, 63, 66, 69, 70, 73, 75, 78, 79, 82, 83, 84, 85, 86, 89, 90, 93, 94, 97, 100, 101, 104, 107, 108, 111, 112, 115, 116, 117, 118, 121, 124, 125, 126, 129, 130, 133, 136, 138, 139, 142, 143, 144, 145, 148, 149, 150]
def bpX9_copiesBundle : List Nat := [0, 1, 2, 5, 8, 9, 10, 13, 16, 17, 18, 19, 20, 23, 26, 27, 30, 31, 32, 35, 36, 37, 38, 39, 42, 43, 44, 47, 48, 49, 50, 53, 56, 57, 58, 59, 61, 62, 65, 66, 69, 70, 73, 74, 75, 78, 79, 80, 81, 84, 87, 88, 89, 90, 91, 94, 95, 98, 99, 100, 103, 104, 105, 106, 109, 112, 113, 114, 117, 118]
def bpX9_isImage : List Nat := [0, 1, 2, 3, 4, 7, 8, 9, 10, 13, 14]
def bpX9_image : List Nat := [0, 1, 2, 5, 8, 9, 10, 11, 14, 17, 20, 21, 24, 26, 27, 28, 29, 30, 31, 34, 35, 36]
def bpX9_keepsIn : List Nat := [0, 1, 2, 3, 5, 8, 9, 10, 11, 12, 13, 16, 17, 18, 19, 22, 25, 26]
def bpX9_laysFrom : List Nat := [0, 1, 2, 3, 5, 8, 9, 12, 13, 14, 15, 16, 17, 18, 19, 22, 25, 26]
def bpX9_remembers : List Nat := [0, 1, 4, 6, 9, 11, 12, 13, 16, 19, 20, 23, 24, 26, 27, 28, 31, 32, 33, 34, 37, 40, 41, 42, 45, 46, 47, 50, 51, 52, 55, 57, 58, 61, 62, 65, 66, 67, 70, 71, 72, 75, 76]
def bpX9_undo : List Nat := [0, 1, 4, 7, 8, 9, 10, 11, 14, 15, 16, 19, 20, 21, 24, 26, 27, 30, 31, 34, 35, 38, 39]
def bpX9_isOff : List Nat := [0, 1, 4, 6, 7, 8, 11, 12, 15, 16, 17]
def bpX9_isSlotRunning : List Nat := [0, 1, 4, 6, 7, 10, 11, 14, 16, 17, 18, 21, 22, 25, 26, 27]
def bpX9_begins : List Nat := [0, 1, 2, 5, 6, 7, 10, 11, 12, 15, 16]
def bpX9_canWrite : List Nat := [0, 1, 4, 7, 8, 11, 14, 15, 16, 19, 20, 23, 25, 26, 27, 28, 31, 34, 35, 36, 37, 38, 41, 42, 45, 48, 49, 52, 53, 54, 57, 58, 59, 62, 63, 64, 67, 68, 69]
def bpX9_writes : List Nat := [0, 1, 4, 7, 8, 11, 12, 13, 14, 15]
def bpX9_pageAt : List Nat := [0, 2, 4, 5, 6, 7, 8]
def bpX9_checkOf : List Nat := [0, 1, 2, 3, 4, 5, 7, 10, 11, 12, 13, 14, 15, 18, 19, 22, 23, 24, 25, 26, 27, 28, 31, 34, 35, 36]
def bpX9_isWhole : List Nat := [0, 1, 4, 5, 6, 9, 10, 11, 14, 17, 18, 21, 22, 24, 25, 26, 29, 30, 31, 34, 35, 37, 38, 39, 40, 41, 42, 45, 48, 49, 52, 53, 54]
def bpX9_newest : List Nat := [0, 1, 2, 5, 6, 7, 8, 11, 12, 13, 16, 17, 20, 21, 24, 25, 28, 29, 30, 31, 32, 35, 36, 39, 40, 41, 42, 43, 44, 47, 48, 51, 52, 55, 56, 57, 58, 61, 62, 65, 66, 69, 70, 73, 74, 75]
def bpX9_readsFlags : List Nat := [0, 1, 4, 5, 6, 7, 8, 10, 13, 14, 17, 18, 19, 20, 23, 26, 27, 30, 32, 33, 34, 35, 36, 39, 40, 41, 44, 45, 46, 47, 48, 49, 52, 53, 56, 57, 58, 59, 60, 61, 62, 64, 65, 68, 69, 70, 71, 73, 74, 75, 76, 77, 80, 81, 82, 83, 85, 86, 87, 89, 90, 91, 92, 95, 96, 97, 98, 100, 101, 102, 103, 106, 109, 110, 113, 115, 116, 119, 120, 121, 122, 123, 124, 125, 128, 130, 131, 134, 135, 136, 137, 138, 139, 140]
def bpX9_writesFlags : List Nat := [0, 1, 4, 5, 6, 9, 10, 13, 14, 15, 16, 19, 20, 23, 24, 25, 28, 29, 30, 31, 34, 35, 38, 39, 42, 43, 46, 47, 48, 49, 50, 51, 54, 55, 56, 57, 58, 59, 60, 63, 64, 67, 68, 69, 70, 72, 73, 76, 77, 78, 79, 80, 81, 82, 83, 86, 87, 88, 89, 90, 91, 92, 93, 96, 97, 98, 99, 100, 101, 102, 105, 108, 109, 112, 113, 114, 117, 119, 120, 121, 122, 125, 126, 127, 130, 132, 133, 134, 135, 136, 137, 139, 141, 143, 146, 147, 149, 150, 151, 152, 155, 157, 158, 159, 160, 161, 164, 167, 168, 171, 173, 174, 177, 178, 179, 180, 183, 185, 186, 189, 190, 191, 192, 195, 198, 199, 201, 203, 205, 208, 209, 212, 213, 216, 218, 219, 222, 223, 226, 229, 230, 232, 234, 236, 239, 240, 241, 244, 246, 247, 248, 251, 253, 254, 257, 260, 263, 264]
def bpX9_forgets : List Nat := [0, 1, 4, 5, 6, 7, 8, 9, 10, 13, 14, 15, 16, 17, 18, 19, 22, 23, 24, 25, 26, 27, 28]
def bpX9_prefers : List Nat := [0, 1, 4, 5, 6, 7, 9, 10, 11, 14, 15, 16, 17, 19, 20, 23, 24, 25, 26, 27, 30, 31, 32]
def bpX9_isRevoked : List Nat := [0, 1, 2, 3, 4, 7, 8, 11, 13, 14, 15, 16, 17, 18, 19, 22, 23, 24, 25, 28, 29, 30, 31, 34, 35, 36]
def bpX9_areDigests : List Nat := [0, 1, 4, 5, 6, 7, 8, 9, 10, 13, 14, 16, 17, 18, 19, 20, 21, 22, 23, 24, 27, 28, 31, 32, 33, 34, 36, 38, 39, 42, 44, 47, 48, 51, 52, 53, 54, 55, 58, 59, 62, 63, 64, 65, 66, 68, 69, 70, 71, 73, 74, 77, 79, 80, 83, 84, 86, 87, 88, 90, 91, 92, 93, 94, 95, 98, 99, 101, 102, 103, 105, 106, 107, 108, 109, 112, 115, 116, 119, 120, 121, 124, 127, 128, 129]
def bpX9_whyOf : List Nat := [0, 2, 3, 4, 5, 6, 9, 10, 11, 12, 13, 16, 19, 22, 23, 26, 27, 28, 29, 30, 31, 32, 33, 36, 37, 38, 39, 42, 45, 46, 49, 50, 51, 52, 53, 54, 55, 58, 61, 64, 65, 66, 67, 70, 71, 72, 73, 74, 75, 78, 79, 82, 83, 84, 85, 86, 87, 88, 91, 92, 95, 98, 99, 100, 101, 102, 105, 106, 107, 110, 111, 112, 113, 114, 117, 120, 121, 122, 123, 126, 127, 128, 129, 130, 131, 134, 136, 137, 140, 141, 142, 143, 146, 147, 148, 149, 150, 153, 154, 155, 156, 157, 160, 163, 164, 167, 168, 169]
def bpX9_versionOf : List Nat := [0, 1, 4, 6, 7, 8, 9, 10, 11, 12]
def bpX9_copyNow : List Nat := [0, 1, 2, 5, 8, 9, 12, 13, 14, 15, 16, 19, 22, 23, 26, 27, 28, 29, 32, 33, 36, 37, 38, 41, 42, 43, 46, 49, 50, 53, 54, 55, 56, 59, 60, 63, 64, 67, 68, 71, 72, 73]
def bpX9_starts : List Nat := [0, 1, 4, 7, 8, 9, 12, 14, 15, 16, 17, 20, 22, 23, 24, 25, 28, 30, 31, 32, 34, 35, 36, 37, 40, 41, 44, 46, 47, 48, 49, 52, 54, 55, 56, 57, 58, 59, 60, 63, 66, 67, 70, 72, 73, 74, 75, 78, 80, 81, 82, 85, 86, 87, 90, 92, 94, 95, 98, 100, 101, 102, 103, 106, 107, 108]
def bpX9_slotChosen : List Nat := [0, 1, 2, 3, 4, 5, 6, 9, 10, 13, 14, 15, 16, 17, 20, 21, 24, 25, 26, 27, 28, 29, 32, 33, 36, 37, 38, 39, 40, 43, 44, 47, 48, 49, 50, 53, 54, 55, 58, 59, 62, 63, 64, 65, 66, 67, 70, 71, 72, 73, 74, 77, 78, 79, 82, 85, 86, 87]
def bpX9_boots : List Nat := [0, 1, 4, 5, 8, 9, 12, 14, 15, 16, 19, 20, 21, 24, 25, 28, 31, 32, 33, 34, 35, 38, 39, 40, 43, 46, 47, 48, 51, 52, 55, 56, 59, 62, 63, 66, 67, 70, 71, 74, 75, 78, 81, 83, 84, 85, 86, 89, 90, 93, 94, 95, 96, 97, 98, 99, 102, 103, 104, 105, 106, 107, 110, 111, 114, 115, 116, 117, 118, 121, 123, 126, 127, 130, 132, 133, 134, 135, 138, 139, 140, 143, 145, 146, 147, 148, 151, 152, 153, 154, 157, 158, 161, 164, 166, 169, 170, 171, 172, 175, 176, 177, 178, 181, 182, 183, 184, 187, 189, 190, 191, 192, 195, 196, 197, 198, 201, 202, 205, 208, 210, 213, 214, 215]
def bpX9_heals : List Nat := [0, 1, 4, 6, 7, 8, 9, 12, 13, 16, 18, 19, 20, 21, 22, 25, 26, 29, 30, 31, 32, 33, 34, 35, 38, 39, 40, 41, 42, 45, 46, 47, 48, 49, 52, 53, 54, 57, 58, 61, 64, 65, 68, 70, 71, 72, 73, 76, 79, 80, 83, 85, 86, 88, 91, 92, 94, 95, 98, 100, 101, 102, 103, 106, 109, 110, 111, 112, 114, 117, 118, 121, 123, 124, 125, 126, 127, 128, 129, 130, 131, 132, 133, 136, 137, 140, 142, 143, 144, 145, 146, 147, 150, 151, 153, 154, 157, 159, 160, 161, 162, 163, 164, 167, 170, 173, 174, 177, 180, 182, 183, 184, 187, 189, 190, 191, 192, 195, 197, 198, 199]
def bpX9_laysWords : List Nat := [0, 2, 3, 4, 6, 7, 9, 10, 13, 15, 17, 19, 22, 23, 25, 27, 28, 29, 30, 32, 33, 34, 37, 40, 43, 44, 46, 47, 48, 49, 52, 53]
def bpX9_isOpen : List Nat := [0, 1, 4, 6, 7, 8, 11, 13, 14, 15, 16, 19, 21, 22, 23, 24, 25, 28, 30, 31, 33, 36, 37, 40, 42, 43, 44, 47, 48, 51, 52, 55, 57, 58, 59, 60, 61, 64, 67, 68, 69, 72, 74, 75, 78, 81, 82, 85, 86, 87]
def bpX9_resumes : List Nat := [0, 1, 4, 7, 8, 9, 12, 14, 15, 16, 17, 20, 22, 23, 24, 25, 28, 29, 30, 33, 34, 37, 38, 39, 40, 43, 45, 46, 47, 50, 51, 52, 55, 56, 59, 60, 61, 62, 63, 66, 67, 68, 69, 70, 73, 76, 77, 80, 81, 83, 84, 87, 88]
def bpX9_installs : List Nat := [0, 1, 3, 4, 7, 8, 10, 11, 14, 15, 17, 18, 21, 22, 24, 25, 26, 27, 29, 30, 33, 34, 37, 38, 40, 42, 45, 46, 49, 50, 53, 56, 58, 61, 62, 65, 66]
def bpX9_refreshes : List Nat := [0, 1, 4, 5, 8, 9, 12, 13, 14, 15, 16, 17, 20, 22, 23, 24, 27, 28, 31, 34, 36, 39, 40, 41]
def bpX9_prefersNow : List Nat := [0, 1, 4, 5, 6, 9, 10, 13, 14, 15, 16, 17, 18, 19, 22, 23, 26, 29, 31, 34, 35, 36]
def bpX9_mends : List Nat := [0, 1, 2, 3, 4, 7, 8, 9, 12, 15, 16, 19, 20, 23, 24, 25, 26, 29, 32, 33, 34, 37, 40, 41, 44, 45, 46, 47, 50, 53, 54, 55, 58, 61, 62, 65, 66, 67, 68, 69, 72, 73, 76, 77, 80, 81, 83, 84, 86, 88, 90, 93, 94, 97, 99, 100, 103, 105, 107, 108, 110, 111, 112, 113, 116, 119, 120, 121, 123, 124, 125, 128, 129, 132, 135, 136, 139, 142, 144, 147, 148, 149]
def bpX9_canDo : List Nat := [0, 1, 44, 45, 46, 47, 48, 51, 54, 55, 58, 59, 62, 65, 66, 69, 70, 71, 72, 73, 74, 75, 78, 81, 82, 83, 86, 89, 90, 93, 96, 97, 100, 102, 103, 104, 107, 108, 111, 112, 113, 114, 117, 118, 119, 122, 125, 126, 129, 132, 133, 136, 138, 139, 140, 141, 142, 143, 146, 147, 150, 151, 152, 153, 154, 155, 156, 159, 162, 163, 166, 167, 170, 173, 174, 177, 178, 179, 180, 183, 184, 187, 188, 191, 194, 195, 198, 201, 202, 205, 207, 208, 209, 212, 214, 215, 218, 219, 222, 223, 224, 225, 226, 227, 230, 233, 236, 237, 240, 241, 244, 245, 248, 251, 252, 255, 256, 257]
def bpX9_does : List Nat := [0, 1, 3, 6, 7, 44, 45, 46, 47, 50, 51, 54, 55, 58, 60, 63, 64, 67, 69, 72, 73, 74, 75, 78, 80, 83, 84, 85, 88, 90, 93, 94, 95, 98, 100, 103, 104, 107, 109, 112, 113, 116, 117, 120, 123, 125, 128, 129, 132, 134, 135, 138, 140, 141, 144, 145, 147, 148]
def bpX9_acts : List Nat := [0, 2, 3, 6, 7, 8, 9, 10, 13, 16, 17, 18, 19, 22, 23, 24, 25, 26, 28, 31, 32]
def bpX9_boot : List Nat := [0, 1, 2, 3, 6, 7, 8, 11, 12]
def bpX9_health : List Nat := [0, 1, 2, 3, 4, 5, 8, 9]
def bpX9_install : List Nat := [0, 1, 2, 3, 4, 5, 8, 9]
def bpX9_refresh : List Nat := [0, 1, 2, 3, 4, 5, 8, 9]
def bpX9_prefer : List Nat := [0, 1, 2, 3, 4, 5, 8, 9]
def bpX9_mend : List Nat := [0, 1, 2, 3, 4, 5, 8, 9]
def bpX9_resume : List Nat := [0, 1, 3, 4, 5, 6, 9, 10]
def bpX9_factory : List Nat := [0, 1, 4, 7, 8, 9, 12, 15, 16, 19, 21, 22, 23, 24, 25, 26, 29, 30, 31, 32, 35, 36, 37, 38, 40, 43, 44, 47, 49, 50, 51, 52, 55, 57, 58, 59, 60, 61, 62, 63, 64, 67, 69, 70, 71, 72, 75, 77, 78, 79, 80, 81, 82, 83, 86, 89, 90, 91]
def bpX9_waits : List Nat := [0, 1, 2, 3, 6, 9, 12, 13, 16, 19, 20, 21, 22, 25, 26, 27, 28, 29, 30, 31, 34, 35, 38, 41, 42, 45, 47, 48, 49, 50, 51, 52, 53, 56, 59, 60, 63, 65, 66, 69, 70, 73, 75, 76, 77, 80, 81, 82, 85, 86, 89, 91, 92, 93, 94, 97, 99, 100, 101, 102, 103, 104, 105, 106, 109, 110, 113, 116, 119, 120, 121]
def bpX9_off : List Nat := [0, 1, 4, 7, 8, 9, 10, 13, 14, 17, 19, 20, 21, 22, 23]
def bpX9_flip : List Nat := [0, 1, 2, 3, 6, 9, 12, 13, 14, 15, 18, 21, 24, 25, 26, 27, 30, 33, 36, 37, 38, 39, 42, 43, 46, 48, 49, 50, 51, 52, 53, 54, 55, 56, 57, 58, 59, 60, 63, 65, 66, 67, 68, 69, 70, 71]
def bpX9_blot : List Nat := [0, 1, 2, 3, 4, 7, 10, 11, 12, 13, 16, 19, 22, 23, 24, 25, 28, 31, 34, 35, 36, 37, 40, 41, 44, 45, 48, 49, 50, 51, 52, 53, 54, 55, 56, 57, 58, 61, 62, 65, 66, 67, 68, 69]
def bpX9_word : List Nat := [0, 1, 2, 3, 6, 9, 12, 13, 14, 15, 18, 21, 24, 25, 28, 30, 31, 32, 33, 34, 35, 38, 39, 40]
def bpX9_octet : List Nat := [0, 1, 2, 3, 4, 7, 10, 11, 12, 13, 16, 19, 22, 23, 26, 27, 30, 31, 32, 33, 36, 37, 38]
def bpX9_journal : List Nat := [0, 1, 2, 3, 6, 9, 12, 13, 16, 18, 19, 20, 21, 24, 25, 26]
def bpX9_revoked : List Nat := [0, 1, 2, 3, 4, 7, 8, 9, 10, 13, 16, 17, 18, 21, 24, 27, 28, 29]
def bpX9_whole : List Nat := [0, 1, 2, 3, 4, 7, 10, 11, 12, 15, 18, 21, 22, 23]
def bpX9_flag : List Nat := [0, 1, 2, 3, 4, 7, 10, 11, 12, 13, 16, 19, 22, 23, 24, 25, 28, 29, 32, 33, 34, 35, 36, 37, 38, 39]
def bpX9_why : List Nat := [0, 1, 2, 3, 6, 9, 12, 13, 14, 17, 20, 21, 22]
def bpX9_thinks : List Nat := [0, 1, 2, 5, 7, 8, 9, 12, 13]
def bpX9_putsBack : List Nat := [0, 1, 2, 5, 7, 8, 9, 12, 13]
def bpX9_wouldStart : List Nat := [0, 1, 2, 5, 6, 9, 11, 12, 13, 14, 15, 16, 19, 20, 21, 24, 25, 26, 27, 30, 31, 32]
def bpX9_next : List Nat := [0, 1, 2, 5, 6]
def bpX9_keepsFlags : List Nat := [0, 1, 4, 5, 6, 7, 9, 12, 13, 14, 15, 18, 19, 20, 21, 24, 27, 28]
def bpX9_areFlags : List Nat := [0, 1, 4, 5, 6, 7, 8, 9, 11, 14, 15, 18, 19, 20, 21, 22, 25, 26, 27, 30, 31, 34, 35, 36, 39, 42, 43, 44]
def bpX9_writesOf : List Nat := [0, 1, 2, 5, 6, 7, 8, 9, 10, 13, 14, 15, 18, 20, 21, 22, 25, 28, 29, 30, 33, 35, 36]
def bpX9_cuts : List Nat := [0, 1, 2, 3, 6, 9, 12, 13, 14, 15, 16, 19, 22, 24, 25, 26, 29, 32, 35, 36, 37, 38, 39, 42, 45, 46, 47, 48, 49, 52, 54, 56, 59, 61, 62, 63, 65, 66, 67, 70, 71, 73, 75, 77, 80, 81, 82, 83, 84, 86, 89, 90, 92, 93, 96, 98, 99, 100, 103, 105, 106, 107, 110, 111, 114, 115, 118, 119, 121, 124, 126, 127, 129, 130, 133, 134, 137, 140, 141, 144, 147, 150, 151, 153, 154, 155, 158, 161, 164, 166, 167]
def bpX9_twice : List Nat := [0, 1, 2, 3, 6, 9, 12, 13, 14, 15, 16, 19, 22, 23, 24, 25, 26, 27, 28, 31, 33, 34, 36, 37, 38, 41, 42, 44, 46, 48, 51, 52, 53, 54, 55, 57, 60, 61, 62, 63, 66, 67, 68, 69, 70, 71, 74, 75, 76, 79, 81, 82, 83, 86, 87, 89, 91, 93, 96, 97, 98, 99, 100, 102, 105, 106, 108, 109, 110, 113, 114, 117, 118, 121, 122, 125, 126, 128, 129, 130, 133, 136, 139, 140, 141, 144, 147, 150, 152, 153]
def bpX9_lasts : List Nat := [0, 1, 2, 3, 4, 7, 10, 11, 12, 13, 14, 17, 18, 19, 20, 21, 22, 24, 27, 28, 29, 32, 33, 34, 37, 38, 41, 43, 44, 45, 46, 47, 48, 49, 50, 53, 54, 57, 60, 61, 62, 65, 66, 67, 70, 71, 72, 75, 77, 80, 81, 84, 85, 88, 89, 90]
def bpX9_slack : List Nat := [0, 1, 2, 3, 6, 9, 12, 13, 14, 15, 16, 17, 18, 19, 21, 24, 25, 27, 29, 31, 34, 35, 38, 40, 41, 42, 43, 44, 45, 46, 47, 49, 50, 51, 52, 53, 54, 55, 58, 61, 62, 65, 66, 69, 70, 71, 72, 75, 77, 78, 79, 80, 81, 82, 83, 84, 86, 87, 88, 89, 92, 95, 98, 101, 102, 103]
def bpX9_frail : List Nat := [0, 1, 2, 3, 4, 7, 10, 11, 12, 13, 14, 17, 18, 19, 20, 23, 26, 27, 28, 29, 31, 33, 35, 38, 39, 41, 43, 45, 48, 49, 52, 54, 56, 57, 58, 59, 60, 62, 63, 64, 65, 66, 67, 70, 71, 72, 75, 76, 79, 80, 83, 84, 87, 88, 89, 92, 95, 98, 99, 102, 103, 106, 107, 108, 109, 112, 114, 116, 117, 118, 119, 120, 122, 123, 124, 125, 128, 131, 134, 137, 138, 139]
def bpX9_signs : List Nat := [0, 1, 4, 6, 7, 8, 9, 10, 11, 12, 14, 17, 18, 21, 22, 23, 24, 25, 28, 29, 30, 31, 34, 37, 40, 41, 42, 43, 45, 48, 49, 52, 53, 54, 55, 56, 59, 60, 61, 62, 65, 68, 71, 72, 75, 76, 77, 80, 82, 83, 84, 85, 88, 89, 90, 91, 92, 95, 97, 98, 99, 100, 103, 104, 105, 106, 107, 110, 112, 113, 114, 115, 118, 119, 120, 121, 122, 125, 128, 129, 132, 133, 136, 138, 139, 140, 141]
def bpX9_areAlike : List Nat := [0, 1, 2, 3, 5, 8, 9, 12, 14, 15, 16, 17, 18, 19, 20, 23, 25, 26, 27, 28, 29, 30, 33, 34, 35, 38, 41, 42, 43]
def bpX9_isThere : List Nat := [0, 1, 4, 7, 8, 11, 13, 14, 15, 18, 19, 20, 23, 25, 26, 29, 30, 33, 34, 37, 38, 39]
def bpX9_tries : List Nat := [0, 1, 4, 5, 8, 11, 12, 15, 16, 17, 18, 21, 23, 24, 25, 26, 27, 28, 29, 32, 33, 36, 37, 38, 41, 42, 45, 46, 47, 48, 49, 52, 53, 54, 55, 56, 59, 60, 63, 64, 65, 66, 67, 70, 71, 72, 73, 74, 77, 78, 81, 82, 84, 85, 86, 87, 89, 92, 95, 96, 97, 98, 99, 100, 102, 103, 106, 107, 108, 109]
def bpX9_seeks : List Nat := [0, 1, 2, 5, 8, 9, 10, 13, 14, 15, 16, 17, 20, 21, 22, 25, 26, 29, 30, 33, 34, 35, 36, 37, 38, 39, 40, 41, 42, 45, 46, 48, 50, 51, 52, 53, 56, 57, 58, 61, 62, 63, 66, 68, 69, 70, 73, 74, 76, 79, 82, 85, 86, 89, 90, 91, 92, 93, 96, 97, 99, 100, 101, 102, 105, 108, 109, 110, 113, 114, 115, 118, 119, 120, 121, 124, 125, 127, 128, 130, 132, 133, 136, 138, 141, 142, 144, 145, 148, 150, 153, 156, 158, 161, 162, 165, 168, 170, 171, 172, 173, 176, 178, 179, 180, 183, 186, 189, 192, 195, 198, 200, 201]
def bpX9_lengthOf : List Nat := [0, 1, 2, 3, 4, 5, 8, 11, 12, 15, 16, 17, 18, 21, 22, 23]
def bpX9_route : List Nat := [0, 1, 2, 3, 6, 9, 12, 13, 14, 17, 18, 19, 20, 21, 24, 25, 26, 29, 30, 31, 32, 35, 36, 39, 40, 41, 44, 45, 46, 47, 48, 51, 53, 54, 55, 58, 60, 61, 62, 63, 65, 67, 68, 71, 72, 75, 77, 78, 80, 83, 86, 87, 90, 92, 93, 95, 97, 98, 101, 103, 106, 108, 110, 112, 113, 114, 115, 118, 119, 120, 121, 123, 124, 125, 126, 129, 130, 131, 132]
def bpX9_draws : List Nat := [0, 1, 4, 5, 6, 7, 10, 11, 12, 13, 16, 17, 18]
def bpX9_drawn : List Nat := [0, 1, 2, 5, 6, 9, 10, 13, 14, 17, 18, 19, 22, 23, 26, 29, 30, 31, 32, 33]
def bpX9_cutDrawn : List Nat := [0, 1, 3, 6, 7, 8, 10, 13, 14, 17, 18, 19, 20, 21]
def bpX9_happens : List Nat := [0, 1, 2, 3, 4, 7, 10, 11, 12, 13, 14, 15, 17, 20, 22, 23, 24, 27, 28, 31, 34, 35, 38, 39, 42, 43, 46, 49, 50, 51, 52, 55, 57, 58, 61, 62, 65, 66, 69, 70, 73, 74, 75, 78, 80, 81, 84, 85, 88, 89, 92, 93, 96, 97, 98, 101, 103, 104, 107, 108, 111, 112, 115, 116, 119, 121, 124, 126, 127, 130, 131, 132, 135, 136, 138, 141, 142, 145, 147, 148, 151, 152, 155, 156, 159, 160, 163, 164]
def bpX9_lives : List Nat := [0, 1, 4, 7, 8, 9, 12, 15, 16, 19, 20, 23, 24, 25, 26, 27, 28, 29, 32, 35, 36, 37, 39, 42, 84, 85, 86, 87, 88, 89, 92, 95, 98, 99, 100, 103, 104, 105, 106, 109, 112, 113, 114, 115, 116, 117, 118, 121, 124, 127, 128, 129, 132, 135, 136, 137, 138, 139, 140, 141, 144, 147, 150, 151, 154, 156, 157, 158, 161, 162, 163, 164, 165, 166, 169, 172, 175, 176, 178, 179, 180, 181, 184, 187, 188]
def bpX9_life : List Nat := [0, 1, 2, 3, 6, 9, 12, 13, 14, 15, 18, 21, 24, 25, 28, 31, 32, 33, 34, 37, 38, 39, 40, 43, 44, 45, 48, 49, 50, 53, 54, 55, 58, 59, 60, 63, 64, 65, 68, 69, 71, 73, 74, 77, 78, 81, 84, 87, 88, 91, 93, 94, 96, 97, 98, 101, 102, 103, 106, 107, 140, 141, 144, 145, 146, 149, 150, 151, 154, 155, 156, 159, 160, 162, 163, 164, 167, 168]
def bpX9_started : List Nat := [0, 1, 2, 3, 4, 7, 9, 10, 11, 12, 13, 16, 19, 20, 21, 22, 23, 26, 29, 30, 33, 35, 36, 37, 38, 39, 40, 41, 42, 45, 46, 47]
def bpX9_least : List Nat := [0, 1, 2, 3, 4, 7, 10, 11, 12, 14, 15, 16, 17, 18, 19, 22, 23, 24, 27, 30, 31, 32, 35, 37, 38, 40, 43, 44, 47, 49, 50, 53, 56, 58, 59, 62, 64, 67, 68, 69, 72, 75, 76, 77]
def bpX9_count : List Nat := [0, 1, 4, 5, 8, 9, 10, 100, 101, 104, 105, 106, 109, 110, 111, 114, 115, 116, 117, 118, 121, 122, 123, 124, 125, 128, 130, 131, 132, 133, 136, 138, 139, 140, 141, 144, 146, 147, 148, 149, 152, 154, 155, 156, 157, 160, 162, 163, 164, 165, 166, 167, 168, 171, 172, 175, 176, 179, 180, 183, 184, 185, 186, 187, 188, 191, 192, 193, 196, 197, 198, 201, 202, 203, 206, 208, 209, 210, 211, 214, 215, 216, 217, 218, 221, 223, 224, 225, 226, 229, 231, 232, 233, 234, 237, 240, 241, 242, 243]
def bpJ7_fill_53178 : List Nat := [0, 1, 2, 3, 4, 5, 6, 7, 10, 11, 12, 13, 14, 17, 20, 21]
def bpcs (m : Nat) : List Nat := cond (Nat.blt m 132) (cond (Nat.blt m 66) (cond (Nat.blt m 33) (cond (Nat.blt m 16) (cond (Nat.blt m 8) (cond (Nat.blt m 4) (cond (Nat.blt m 2) (cond (Nat.blt m 1) (cond (Nat.beq m 0) (bpL_law) ([])) (cond (Nat.beq m 1) (bpX0_init) ([]))) (cond (Nat.blt m 3) (cond (Nat.beq m 2) (bpX0_clear) ([])) (cond (Nat.beq m 3) (bpX0_take) ([])))) (cond (Nat.blt m 6) (cond (Nat.blt m 5) (cond (Nat.beq m 4) (bpX0_hasKey) ([])) (cond (Nat.beq m 5) (bpX0_hasImage) ([]))) (cond (Nat.blt m 7) (cond (Nat.beq m 6) (bpX0_hasRecoveryImage) ([])) (cond (Nat.beq m 7) (bpX0_addKey) ([]))))) (cond (Nat.blt m 12) (cond (Nat.blt m 10) (cond (Nat.blt m 9) (cond (Nat.beq m 8) (bpX0_addImage) ([])) (cond (Nat.beq m 9) (bpX0_digest) ([]))) (cond (Nat.blt m 11) (cond (Nat.beq m 10) (bpX0_sign) ([])) (cond (Nat.beq m 11) (bpX1_init) ([])))) (cond (Nat.blt m 14) (cond (Nat.blt m 13) (cond (Nat.beq m 12) (bpX1_answer) ([])) (cond (Nat.beq m 13) (bpX1_startsBelow) ([]))) (cond (Nat.blt m 15) (cond (Nat.beq m 14) (bpX1_drawDeed) ([])) (cond (Nat.beq m 15) (bpX1_attempt) ([])))))) (cond (Nat.blt m 24) (cond (Nat.blt m 20) (cond (Nat.blt m 18) (cond (Nat.blt m 17) (cond (Nat.beq m 16) (bpX1_tally) ([])) (cond (Nat.beq m 17) (bpX1_draw) ([]))) (cond (Nat.blt m 19) (cond (Nat.beq m 18) (bpX2_init) ([])) (cond (Nat.beq m 19) (bpX2_cell) ([])))) (cond (Nat.blt m 22) (cond (Nat.blt m 21) (cond (Nat.beq m 20) (bpX2_setCell) ([])) (cond (Nat.beq m 21) (bpX2_turnBit) ([]))) (cond (Nat.blt m 23) (cond (Nat.beq m 22) (bpX2_takeFrom) ([])) (cond (Nat.beq m 23) (bpX2_saveTo) ([]))))) (cond (Nat.blt m 28) (cond (Nat.blt m 26) (cond (Nat.blt m 25) (cond (Nat.beq m 24) (bpX2_loadFrom) ([])) (cond (Nat.beq m 25) (bpX2_putImage) ([]))) (cond (Nat.blt m 27) (cond (Nat.beq m 26) (bpX2_holdsImage) ([])) (cond (Nat.beq m 27) (bpX2_isOn) ([])))) (cond (Nat.blt m 30) (cond (Nat.blt m 29) (cond (Nat.beq m 28) (bpX2_turnOff) ([])) (cond (Nat.beq m 29) (bpX2_isWhole) ([]))) (cond (Nat.blt m 31) (cond (Nat.beq m 30) (bpX2_sequence) ([])) (cond (Nat.blt m 32) (cond (Nat.beq m 31) (bpX2_newestPage) ([])) (cond (Nat.beq m 32) (bpX2_readFlags) ([])))))))) (cond (Nat.blt m 49) (cond (Nat.blt m 41) (cond (Nat.blt m 37) (cond (Nat.blt m 35) (cond (Nat.blt m 34) (cond (Nat.beq m 33) (bpX2_takeFlags) ([])) (cond (Nat.beq m 34) (bpX2_slotFlags) ([]))) (cond (Nat.blt m 36) (cond (Nat.beq m 35) (bpX2_setSlotFlags) ([])) (cond (Nat.beq m 36) (bpX2_flagsAsOne) ([])))) (cond (Nat.blt m 39) (cond (Nat.blt m 38) (cond (Nat.beq m 37) (bpX2_putFlags) ([])) (cond (Nat.beq m 38) (bpX2_writeFlags) ([]))) (cond (Nat.blt m 40) (cond (Nat.beq m 39) (bpX2_write) ([])) (cond (Nat.beq m 40) (bpX2_isRevoked) ([]))))) (cond (Nat.blt m 45) (cond (Nat.blt m 43) (cond (Nat.blt m 42) (cond (Nat.beq m 41) (bpX2_version) ([])) (cond (Nat.beq m 42) (bpX2_reasonAgainst) ([]))) (cond (Nat.blt m 44) (cond (Nat.beq m 43) (bpX2_hasSoundParts) ([])) (cond (Nat.beq m 44) (bpX2_recoveryCopy) ([])))) (cond (Nat.blt m 47) (cond (Nat.blt m 46) (cond (Nat.beq m 45) (bpX2_isJournalOpen) ([])) (cond (Nat.beq m 46) (bpX2_isAble) ([]))) (cond (Nat.blt m 48) (cond (Nat.beq m 47) (bpX2_perform) ([])) (cond (Nat.beq m 48) (bpX2_startSlot) ([])))))) (cond (Nat.blt m 57) (cond (Nat.blt m 53) (cond (Nat.blt m 51) (cond (Nat.blt m 50) (cond (Nat.beq m 49) (bpX2_chosenSlot) ([])) (cond (Nat.beq m 50) (bpX2_standing) ([]))) (cond (Nat.blt m 52) (cond (Nat.beq m 51) (bpX2_countTry) ([])) (cond (Nat.beq m 52) (bpX2_startRecovery) ([])))) (cond (Nat.blt m 55) (cond (Nat.blt m 54) (cond (Nat.beq m 53) (bpX2_noteStart) ([])) (cond (Nat.beq m 54) (bpX2_tellHealth) ([]))) (cond (Nat.blt m 56) (cond (Nat.beq m 55) (bpX2_blowVersionFuses) ([])) (cond (Nat.beq m 56) (bpX2_blowKeyFuses) ([]))))) (cond (Nat.blt m 61) (cond (Nat.blt m 59) (cond (Nat.blt m 58) (cond (Nat.beq m 57) (bpX2_openJournal) ([])) (cond (Nat.beq m 58) (bpX2_finishInstall) ([]))) (cond (Nat.blt m 60) (cond (Nat.beq m 59) (bpX2_favour) ([])) (cond (Nat.beq m 60) (bpX2_refreshOther) ([])))) (cond (Nat.blt m 63) (cond (Nat.blt m 62) (cond (Nat.beq m 61) (bpX2_mendBoth) ([])) (cond (Nat.beq m 62) (bpX2_lay) ([]))) (cond (Nat.blt m 64) (cond (Nat.beq m 63) (bpX2_passTicks) ([])) (cond (Nat.blt m 65) (cond (Nat.beq m 64) (bpX3_init) ([])) (cond (Nat.beq m 65) (bpX3_keep) ([]))))))))) (cond (Nat.blt m 99) (cond (Nat.blt m 82) (cond (Nat.blt m 74) (cond (Nat.blt m 70) (cond (Nat.blt m 68) (cond (Nat.blt m 67) (cond (Nat.beq m 66) (bpX3_bringBack) ([])) (cond (Nat.beq m 67) (bpX3_forget) ([]))) (cond (Nat.blt m 69) (cond (Nat.beq m 68) (bpX4_init) ([])) (cond (Nat.beq m 69) (bpX4_read) ([])))) (cond (Nat.blt m 72) (cond (Nat.blt m 71) (cond (Nat.beq m 70) (bpX4_readLine) ([])) (cond (Nat.beq m 71) (bpX4_readKey) ([]))) (cond (Nat.blt m 73) (cond (Nat.beq m 72) (bpX4_readImage) ([])) (cond (Nat.beq m 73) (bpX4_readRevoked) ([]))))) (cond (Nat.blt m 78) (cond (Nat.blt m 76) (cond (Nat.blt m 75) (cond (Nat.beq m 74) (bpX4_readParts) ([])) (cond (Nat.beq m 75) (bpX4_readLimit) ([]))) (cond (Nat.blt m 77) (cond (Nat.beq m 76) (bpX4_readTries) ([])) (cond (Nat.beq m 77) (bpX4_readWatch) ([])))) (cond (Nat.blt m 80) (cond (Nat.blt m 79) (cond (Nat.beq m 78) (bpX4_takeWord) ([])) (cond (Nat.beq m 79) (bpX4_takeNumber) ([]))) (cond (Nat.blt m 81) (cond (Nat.beq m 80) (bpX4_skipBlanks) ([])) (cond (Nat.beq m 81) (bpX4_byteAt) ([])))))) (cond (Nat.blt m 90) (cond (Nat.blt m 86) (cond (Nat.blt m 84) (cond (Nat.blt m 83) (cond (Nat.beq m 82) (bpX4_fail) ([])) (cond (Nat.beq m 83) (bpX4_isLetter) ([]))) (cond (Nat.blt m 85) (cond (Nat.beq m 84) (bpX4_isDigit) ([])) (cond (Nat.beq m 85) (bpX5_init) ([])))) (cond (Nat.blt m 88) (cond (Nat.blt m 87) (cond (Nat.beq m 86) (bpX5_moveOrLength) ([])) (cond (Nat.beq m 87) (bpX5_moveAt) ([]))) (cond (Nat.blt m 89) (cond (Nat.beq m 88) (bpX5_isThere) ([])) (cond (Nat.beq m 89) (bpX5_search) ([]))))) (cond (Nat.blt m 94) (cond (Nat.blt m 92) (cond (Nat.blt m 91) (cond (Nat.beq m 90) (bpX5_findAlike) ([])) (cond (Nat.beq m 91) (bpX5_firstAlike) ([]))) (cond (Nat.blt m 93) (cond (Nat.beq m 92) (bpX5_step) ([])) (cond (Nat.beq m 93) (bpX5_part) ([])))) (cond (Nat.blt m 96) (cond (Nat.blt m 95) (cond (Nat.beq m 94) (bpX5_pack) ([])) (cond (Nat.beq m 95) (bpX5_unpack) ([]))) (cond (Nat.blt m 97) (cond (Nat.beq m 96) (bpX5_add) ([])) (cond (Nat.blt m 98) (cond (Nat.beq m 97) (bpX6_at) ([])) (cond (Nat.beq m 98) (bpX6_put) ([])))))))) (cond (Nat.blt m 115) (cond (Nat.blt m 107) (cond (Nat.blt m 103) (cond (Nat.blt m 101) (cond (Nat.blt m 100) (cond (Nat.beq m 99) (bpX6_copy) ([])) (cond (Nat.beq m 100) (bpX7_init) ([]))) (cond (Nat.blt m 102) (cond (Nat.beq m 101) (bpX7_nextStart) ([])) (cond (Nat.beq m 102) (bpX7_writesOf) ([])))) (cond (Nat.blt m 105) (cond (Nat.blt m 104) (cond (Nat.beq m 103) (bpX7_countCuts) ([])) (cond (Nat.beq m 104) (bpX7_countTwos) ([]))) (cond (Nat.blt m 106) (cond (Nat.beq m 105) (bpX7_countDeadBoots) ([])) (cond (Nat.beq m 106) (bpX7_bootsWithoutHealth) ([]))))) (cond (Nat.blt m 111) (cond (Nat.blt m 109) (cond (Nat.blt m 108) (cond (Nat.beq m 107) (bpX7_slackBits) ([])) (cond (Nat.beq m 108) (bpX7_frailBits) ([]))) (cond (Nat.blt m 110) (cond (Nat.beq m 109) (bpX8_init) ([])) (cond (Nat.beq m 110) (bpX8_feed) ([])))) (cond (Nat.blt m 113) (cond (Nat.blt m 112) (cond (Nat.beq m 111) (bpX8_feedNumber) ([])) (cond (Nat.beq m 112) (bpX8_end) ([]))) (cond (Nat.blt m 114) (cond (Nat.beq m 113) (bpX8_bundle) ([])) (cond (Nat.beq m 114) (bpX8_image) ([])))))) (cond (Nat.blt m 123) (cond (Nat.blt m 119) (cond (Nat.blt m 117) (cond (Nat.blt m 116) (cond (Nat.beq m 115) (bpX8_factory) ([])) (cond (Nat.beq m 116) (bpX8_boot) ([]))) (cond (Nat.blt m 118) (cond (Nat.beq m 117) (bpX8_health) ([])) (cond (Nat.beq m 118) (bpX8_install) ([])))) (cond (Nat.blt m 121) (cond (Nat.blt m 120) (cond (Nat.beq m 119) (bpX8_refresh) ([])) (cond (Nat.beq m 120) (bpX8_prefer) ([]))) (cond (Nat.blt m 122) (cond (Nat.beq m 121) (bpX8_mend) ([])) (cond (Nat.beq m 122) (bpX8_resume) ([]))))) (cond (Nat.blt m 127) (cond (Nat.blt m 125) (cond (Nat.blt m 124) (cond (Nat.beq m 123) (bpX8_act) ([])) (cond (Nat.beq m 124) (bpX8_waits) ([]))) (cond (Nat.blt m 126) (cond (Nat.beq m 125) (bpX8_off) ([])) (cond (Nat.beq m 126) (bpX8_flip) ([])))) (cond (Nat.blt m 129) (cond (Nat.blt m 128) (cond (Nat.beq m 127) (bpX8_blot) ([])) (cond (Nat.beq m 128) (bpX8_undo) ([]))) (cond (Nat.blt m 130) (cond (Nat.beq m 129) (bpX8_word) ([])) (cond (Nat.blt m 131) (cond (Nat.beq m 130) (bpX8_octet) ([])) (cond (Nat.beq m 131) (bpX8_journal) ([])))))))))) (cond (Nat.blt m 198) (cond (Nat.blt m 165) (cond (Nat.blt m 148) (cond (Nat.blt m 140) (cond (Nat.blt m 136) (cond (Nat.blt m 134) (cond (Nat.blt m 133) (cond (Nat.beq m 132) (bpX8_revoked) ([])) (cond (Nat.beq m 133) (bpX8_whole) ([]))) (cond (Nat.blt m 135) (cond (Nat.beq m 134) (bpX8_flag) ([])) (cond (Nat.beq m 135) (bpX8_why) ([])))) (cond (Nat.blt m 138) (cond (Nat.blt m 137) (cond (Nat.beq m 136) (bpX8_next) ([])) (cond (Nat.beq m 137) (bpX8_cuts) ([]))) (cond (Nat.blt m 139) (cond (Nat.beq m 138) (bpX8_twice) ([])) (cond (Nat.beq m 139) (bpX8_lasts) ([]))))) (cond (Nat.blt m 144) (cond (Nat.blt m 142) (cond (Nat.blt m 141) (cond (Nat.beq m 140) (bpX8_slack) ([])) (cond (Nat.beq m 141) (bpX8_frail) ([]))) (cond (Nat.blt m 143) (cond (Nat.beq m 142) (bpX8_route) ([])) (cond (Nat.beq m 143) (bpX8_draws) ([])))) (cond (Nat.blt m 146) (cond (Nat.blt m 145) (cond (Nat.beq m 144) (bpX8_life) ([])) (cond (Nat.beq m 145) (bpX8_started) ([]))) (cond (Nat.blt m 147) (cond (Nat.beq m 146) (bpX8_least) ([])) (cond (Nat.beq m 147) (bpX8_count) ([])))))) (cond (Nat.blt m 156) (cond (Nat.blt m 152) (cond (Nat.blt m 150) (cond (Nat.blt m 149) (cond (Nat.beq m 148) (bpX8_countOfFlags) ([])) (cond (Nat.beq m 149) (bpX8_isSlot) ([]))) (cond (Nat.blt m 151) (cond (Nat.beq m 150) (bpX8_isPage) ([])) (cond (Nat.beq m 151) (bpX8_isStore) ([])))) (cond (Nat.blt m 154) (cond (Nat.blt m 153) (cond (Nat.beq m 152) (bpX9_init) ([])) (cond (Nat.beq m 153) (bpX9_in) ([]))) (cond (Nat.blt m 155) (cond (Nat.beq m 154) (bpX9_truth) ([])) (cond (Nat.beq m 155) (bpX9_feed) ([]))))) (cond (Nat.blt m 160) (cond (Nat.blt m 158) (cond (Nat.blt m 157) (cond (Nat.beq m 156) (bpX9_puts) ([])) (cond (Nat.beq m 157) (bpX9_end) ([]))) (cond (Nat.blt m 159) (cond (Nat.beq m 158) (bpX9_fails) ([])) (cond (Nat.beq m 159) (bpX9_isRight) ([])))) (cond (Nat.blt m 162) (cond (Nat.blt m 161) (cond (Nat.beq m 160) (bpX9_sign) ([])) (cond (Nat.beq m 161) (bpX9_nextSign) ([]))) (cond (Nat.blt m 163) (cond (Nat.beq m 162) (bpX9_wordOf) ([])) (cond (Nat.blt m 164) (cond (Nat.beq m 163) (bpX9_wordLength) ([])) (cond (Nat.beq m 164) (bpX9_isWord) ([])))))))) (cond (Nat.blt m 181) (cond (Nat.blt m 173) (cond (Nat.blt m 169) (cond (Nat.blt m 167) (cond (Nat.blt m 166) (cond (Nat.beq m 165) (bpX9_takes) ([])) (cond (Nat.beq m 166) (bpX9_isDigit) ([]))) (cond (Nat.blt m 168) (cond (Nat.beq m 167) (bpX9_number) ([])) (cond (Nat.beq m 168) (bpX9_readsKey) ([])))) (cond (Nat.blt m 171) (cond (Nat.blt m 170) (cond (Nat.beq m 169) (bpX9_digestOf) ([])) (cond (Nat.beq m 170) (bpX9_signOf) ([]))) (cond (Nat.blt m 172) (cond (Nat.beq m 171) (bpX9_readsRevoked) ([])) (cond (Nat.beq m 172) (bpX9_readsParts) ([]))))) (cond (Nat.blt m 177) (cond (Nat.blt m 175) (cond (Nat.blt m 174) (cond (Nat.beq m 173) (bpX9_readsImage) ([])) (cond (Nat.beq m 174) (bpX9_readsSetting) ([]))) (cond (Nat.blt m 176) (cond (Nat.beq m 175) (bpX9_readsLine) ([])) (cond (Nat.beq m 176) (bpX9_bundle) ([])))) (cond (Nat.blt m 179) (cond (Nat.blt m 178) (cond (Nat.beq m 177) (bpX9_copiesBundle) ([])) (cond (Nat.beq m 178) (bpX9_isImage) ([]))) (cond (Nat.blt m 180) (cond (Nat.beq m 179) (bpX9_image) ([])) (cond (Nat.beq m 180) (bpX9_keepsIn) ([])))))) (cond (Nat.blt m 189) (cond (Nat.blt m 185) (cond (Nat.blt m 183) (cond (Nat.blt m 182) (cond (Nat.beq m 181) (bpX9_laysFrom) ([])) (cond (Nat.beq m 182) (bpX9_remembers) ([]))) (cond (Nat.blt m 184) (cond (Nat.beq m 183) (bpX9_undo) ([])) (cond (Nat.beq m 184) (bpX9_isOff) ([])))) (cond (Nat.blt m 187) (cond (Nat.blt m 186) (cond (Nat.beq m 185) (bpX9_isSlotRunning) ([])) (cond (Nat.beq m 186) (bpX9_begins) ([]))) (cond (Nat.blt m 188) (cond (Nat.beq m 187) (bpX9_canWrite) ([])) (cond (Nat.beq m 188) (bpX9_writes) ([]))))) (cond (Nat.blt m 193) (cond (Nat.blt m 191) (cond (Nat.blt m 190) (cond (Nat.beq m 189) (bpX9_pageAt) ([])) (cond (Nat.beq m 190) (bpX9_checkOf) ([]))) (cond (Nat.blt m 192) (cond (Nat.beq m 191) (bpX9_isWhole) ([])) (cond (Nat.beq m 192) (bpX9_newest) ([])))) (cond (Nat.blt m 195) (cond (Nat.blt m 194) (cond (Nat.beq m 193) (bpX9_readsFlags) ([])) (cond (Nat.beq m 194) (bpX9_writesFlags) ([]))) (cond (Nat.blt m 196) (cond (Nat.beq m 195) (bpX9_forgets) ([])) (cond (Nat.blt m 197) (cond (Nat.beq m 196) (bpX9_prefers) ([])) (cond (Nat.beq m 197) (bpX9_isRevoked) ([]))))))))) (cond (Nat.blt m 231) (cond (Nat.blt m 214) (cond (Nat.blt m 206) (cond (Nat.blt m 202) (cond (Nat.blt m 200) (cond (Nat.blt m 199) (cond (Nat.beq m 198) (bpX9_areDigests) ([])) (cond (Nat.beq m 199) (bpX9_whyOf) ([]))) (cond (Nat.blt m 201) (cond (Nat.beq m 200) (bpX9_versionOf) ([])) (cond (Nat.beq m 201) (bpX9_copyNow) ([])))) (cond (Nat.blt m 204) (cond (Nat.blt m 203) (cond (Nat.beq m 202) (bpX9_starts) ([])) (cond (Nat.beq m 203) (bpX9_slotChosen) ([]))) (cond (Nat.blt m 205) (cond (Nat.beq m 204) (bpX9_boots) ([])) (cond (Nat.beq m 205) (bpX9_heals) ([]))))) (cond (Nat.blt m 210) (cond (Nat.blt m 208) (cond (Nat.blt m 207) (cond (Nat.beq m 206) (bpX9_laysWords) ([])) (cond (Nat.beq m 207) (bpX9_isOpen) ([]))) (cond (Nat.blt m 209) (cond (Nat.beq m 208) (bpX9_resumes) ([])) (cond (Nat.beq m 209) (bpX9_installs) ([])))) (cond (Nat.blt m 212) (cond (Nat.blt m 211) (cond (Nat.beq m 210) (bpX9_refreshes) ([])) (cond (Nat.beq m 211) (bpX9_prefersNow) ([]))) (cond (Nat.blt m 213) (cond (Nat.beq m 212) (bpX9_mends) ([])) (cond (Nat.beq m 213) (bpX9_canDo) ([])))))) (cond (Nat.blt m 222) (cond (Nat.blt m 218) (cond (Nat.blt m 216) (cond (Nat.blt m 215) (cond (Nat.beq m 214) (bpX9_does) ([])) (cond (Nat.beq m 215) (bpX9_acts) ([]))) (cond (Nat.blt m 217) (cond (Nat.beq m 216) (bpX9_boot) ([])) (cond (Nat.beq m 217) (bpX9_health) ([])))) (cond (Nat.blt m 220) (cond (Nat.blt m 219) (cond (Nat.beq m 218) (bpX9_install) ([])) (cond (Nat.beq m 219) (bpX9_refresh) ([]))) (cond (Nat.blt m 221) (cond (Nat.beq m 220) (bpX9_prefer) ([])) (cond (Nat.beq m 221) (bpX9_mend) ([]))))) (cond (Nat.blt m 226) (cond (Nat.blt m 224) (cond (Nat.blt m 223) (cond (Nat.beq m 222) (bpX9_resume) ([])) (cond (Nat.beq m 223) (bpX9_factory) ([]))) (cond (Nat.blt m 225) (cond (Nat.beq m 224) (bpX9_waits) ([])) (cond (Nat.beq m 225) (bpX9_off) ([])))) (cond (Nat.blt m 228) (cond (Nat.blt m 227) (cond (Nat.beq m 226) (bpX9_flip) ([])) (cond (Nat.beq m 227) (bpX9_blot) ([]))) (cond (Nat.blt m 229) (cond (Nat.beq m 228) (bpX9_word) ([])) (cond (Nat.blt m 230) (cond (Nat.beq m 229) (bpX9_octet) ([])) (cond (Nat.beq m 230) (bpX9_journal) ([])))))))) (cond (Nat.blt m 247) (cond (Nat.blt m 239) (cond (Nat.blt m 235) (cond (Nat.blt m 233) (cond (Nat.blt m 232) (cond (Nat.beq m 231) (bpX9_revoked) ([])) (cond (Nat.beq m 232) (bpX9_whole) ([]))) (cond (Nat.blt m 234) (cond (Nat.beq m 233) (bpX9_flag) ([])) (cond (Nat.beq m 234) (bpX9_why) ([])))) (cond (Nat.blt m 237) (cond (Nat.blt m 236) (cond (Nat.beq m 235) (bpX9_thinks) ([])) (cond (Nat.beq m 236) (bpX9_putsBack) ([]))) (cond (Nat.blt m 238) (cond (Nat.beq m 237) (bpX9_wouldStart) ([])) (cond (Nat.beq m 238) (bpX9_next) ([]))))) (cond (Nat.blt m 243) (cond (Nat.blt m 241) (cond (Nat.blt m 240) (cond (Nat.beq m 239) (bpX9_keepsFlags) ([])) (cond (Nat.beq m 240) (bpX9_areFlags) ([]))) (cond (Nat.blt m 242) (cond (Nat.beq m 241) (bpX9_writesOf) ([])) (cond (Nat.beq m 242) (bpX9_cuts) ([])))) (cond (Nat.blt m 245) (cond (Nat.blt m 244) (cond (Nat.beq m 243) (bpX9_twice) ([])) (cond (Nat.beq m 244) (bpX9_lasts) ([]))) (cond (Nat.blt m 246) (cond (Nat.beq m 245) (bpX9_slack) ([])) (cond (Nat.beq m 246) (bpX9_frail) ([])))))) (cond (Nat.blt m 255) (cond (Nat.blt m 251) (cond (Nat.blt m 249) (cond (Nat.blt m 248) (cond (Nat.beq m 247) (bpX9_signs) ([])) (cond (Nat.beq m 248) (bpX9_areAlike) ([]))) (cond (Nat.blt m 250) (cond (Nat.beq m 249) (bpX9_isThere) ([])) (cond (Nat.beq m 250) (bpX9_tries) ([])))) (cond (Nat.blt m 253) (cond (Nat.blt m 252) (cond (Nat.beq m 251) (bpX9_seeks) ([])) (cond (Nat.beq m 252) (bpX9_lengthOf) ([]))) (cond (Nat.blt m 254) (cond (Nat.beq m 253) (bpX9_route) ([])) (cond (Nat.beq m 254) (bpX9_draws) ([]))))) (cond (Nat.blt m 259) (cond (Nat.blt m 257) (cond (Nat.blt m 256) (cond (Nat.beq m 255) (bpX9_drawn) ([])) (cond (Nat.beq m 256) (bpX9_cutDrawn) ([]))) (cond (Nat.blt m 258) (cond (Nat.beq m 257) (bpX9_happens) ([])) (cond (Nat.beq m 258) (bpX9_lives) ([])))) (cond (Nat.blt m 261) (cond (Nat.blt m 260) (cond (Nat.beq m 259) (bpX9_life) ([])) (cond (Nat.beq m 260) (bpX9_started) ([]))) (cond (Nat.blt m 262) (cond (Nat.beq m 261) (bpX9_least) ([])) (cond (Nat.blt m 263) (cond (Nat.beq m 262) (bpX9_count) ([])) (cond (Nat.beq m 263) (bpJ7_fill_53178) ([]))))))))))
def bpc (m j : Nat) : Nat := nthD (bpcs m) j
def mInit (m : Nat) : Bool := cond (Nat.blt m 132) (cond (Nat.blt m 66) (cond (Nat.blt m 33) (cond (Nat.blt m 16) (cond (Nat.blt m 8) (cond (Nat.blt m 4) (cond (Nat.blt m 2) (cond (Nat.blt m 1) (cond (Nat.beq m 0) (false) (false)) (cond (Nat.beq m 1) (true) (false))) (cond (Nat.blt m 3) (cond (Nat.beq m 2) (false) (false)) (cond (Nat.beq m 3) (false) (false)))) (cond (Nat.blt m 6) (cond (Nat.blt m 5) (cond (Nat.beq m 4) (false) (false)) (cond (Nat.beq m 5) (false) (false))) (cond (Nat.blt m 7) (cond (Nat.beq m 6) (false) (false)) (cond (Nat.beq m 7) (false) (false))))) (cond (Nat.blt m 12) (cond (Nat.blt m 10) (cond (Nat.blt m 9) (cond (Nat.beq m 8) (false) (false)) (cond (Nat.beq m 9) (false) (false))) (cond (Nat.blt m 11) (cond (Nat.beq m 10) (false) (false)) (cond (Nat.beq m 11) (true) (false)))) (cond (Nat.blt m 14) (cond (Nat.blt m 13) (cond (Nat.beq m 12) (false) (false)) (cond (Nat.beq m 13) (false) (false))) (cond (Nat.blt m 15) (cond (Nat.beq m 14) (false) (false)) (cond (Nat.beq m 15) (false) (false)))))) (cond (Nat.blt m 24) (cond (Nat.blt m 20) (cond (Nat.blt m 18) (cond (Nat.blt m 17) (cond (Nat.beq m 16) (false) (false)) (cond (Nat.beq m 17) (false) (false))) (cond (Nat.blt m 19) (cond (Nat.beq m 18) (true) (false)) (cond (Nat.beq m 19) (false) (false)))) (cond (Nat.blt m 22) (cond (Nat.blt m 21) (cond (Nat.beq m 20) (false) (false)) (cond (Nat.beq m 21) (false) (false))) (cond (Nat.blt m 23) (cond (Nat.beq m 22) (false) (false)) (cond (Nat.beq m 23) (false) (false))))) (cond (Nat.blt m 28) (cond (Nat.blt m 26) (cond (Nat.blt m 25) (cond (Nat.beq m 24) (false) (false)) (cond (Nat.beq m 25) (false) (false))) (cond (Nat.blt m 27) (cond (Nat.beq m 26) (false) (false)) (cond (Nat.beq m 27) (false) (false)))) (cond (Nat.blt m 30) (cond (Nat.blt m 29) (cond (Nat.beq m 28) (false) (false)) (cond (Nat.beq m 29) (false) (false))) (cond (Nat.blt m 31) (cond (Nat.beq m 30) (false) (false)) (cond (Nat.blt m 32) (cond (Nat.beq m 31) (false) (false)) (cond (Nat.beq m 32) (false) (false)))))))) (cond (Nat.blt m 49) (cond (Nat.blt m 41) (cond (Nat.blt m 37) (cond (Nat.blt m 35) (cond (Nat.blt m 34) (cond (Nat.beq m 33) (false) (false)) (cond (Nat.beq m 34) (false) (false))) (cond (Nat.blt m 36) (cond (Nat.beq m 35) (false) (false)) (cond (Nat.beq m 36) (false) (false)))) (cond (Nat.blt m 39) (cond (Nat.blt m 38) (cond (Nat.beq m 37) (false) (false)) (cond (Nat.beq m 38) (false) (false))) (cond (Nat.blt m 40) (cond (Nat.beq m 39) (false) (false)) (cond (Nat.beq m 40) (false) (false))))) (cond (Nat.blt m 45) (cond (Nat.blt m 43) (cond (Nat.blt m 42) (cond (Nat.beq m 41) (false) (false)) (cond (Nat.beq m 42) (false) (false))) (cond (Nat.blt m 44) (cond (Nat.beq m 43) (false) (false)) (cond (Nat.beq m 44) (false) (false)))) (cond (Nat.blt m 47) (cond (Nat.blt m 46) (cond (Nat.beq m 45) (false) (false)) (cond (Nat.beq m 46) (false) (false))) (cond (Nat.blt m 48) (cond (Nat.beq m 47) (false) (false)) (cond (Nat.beq m 48) (false) (false)))))) (cond (Nat.blt m 57) (cond (Nat.blt m 53) (cond (Nat.blt m 51) (cond (Nat.blt m 50) (cond (Nat.beq m 49) (false) (false)) (cond (Nat.beq m 50) (false) (false))) (cond (Nat.blt m 52) (cond (Nat.beq m 51) (false) (false)) (cond (Nat.beq m 52) (false) (false)))) (cond (Nat.blt m 55) (cond (Nat.blt m 54) (cond (Nat.beq m 53) (false) (false)) (cond (Nat.beq m 54) (false) (false))) (cond (Nat.blt m 56) (cond (Nat.beq m 55) (false) (false)) (cond (Nat.beq m 56) (false) (false))))) (cond (Nat.blt m 61) (cond (Nat.blt m 59) (cond (Nat.blt m 58) (cond (Nat.beq m 57) (false) (false)) (cond (Nat.beq m 58) (false) (false))) (cond (Nat.blt m 60) (cond (Nat.beq m 59) (false) (false)) (cond (Nat.beq m 60) (false) (false)))) (cond (Nat.blt m 63) (cond (Nat.blt m 62) (cond (Nat.beq m 61) (false) (false)) (cond (Nat.beq m 62) (false) (false))) (cond (Nat.blt m 64) (cond (Nat.beq m 63) (false) (false)) (cond (Nat.blt m 65) (cond (Nat.beq m 64) (true) (false)) (cond (Nat.beq m 65) (false) (false))))))))) (cond (Nat.blt m 99) (cond (Nat.blt m 82) (cond (Nat.blt m 74) (cond (Nat.blt m 70) (cond (Nat.blt m 68) (cond (Nat.blt m 67) (cond (Nat.beq m 66) (false) (false)) (cond (Nat.beq m 67) (false) (false))) (cond (Nat.blt m 69) (cond (Nat.beq m 68) (true) (false)) (cond (Nat.beq m 69) (false) (false)))) (cond (Nat.blt m 72) (cond (Nat.blt m 71) (cond (Nat.beq m 70) (false) (false)) (cond (Nat.beq m 71) (false) (false))) (cond (Nat.blt m 73) (cond (Nat.beq m 72) (false) (false)) (cond (Nat.beq m 73) (false) (false))))) (cond (Nat.blt m 78) (cond (Nat.blt m 76) (cond (Nat.blt m 75) (cond (Nat.beq m 74) (false) (false)) (cond (Nat.beq m 75) (false) (false))) (cond (Nat.blt m 77) (cond (Nat.beq m 76) (false) (false)) (cond (Nat.beq m 77) (false) (false)))) (cond (Nat.blt m 80) (cond (Nat.blt m 79) (cond (Nat.beq m 78) (false) (false)) (cond (Nat.beq m 79) (false) (false))) (cond (Nat.blt m 81) (cond (Nat.beq m 80) (false) (false)) (cond (Nat.beq m 81) (false) (false)))))) (cond (Nat.blt m 90) (cond (Nat.blt m 86) (cond (Nat.blt m 84) (cond (Nat.blt m 83) (cond (Nat.beq m 82) (false) (false)) (cond (Nat.beq m 83) (false) (false))) (cond (Nat.blt m 85) (cond (Nat.beq m 84) (false) (false)) (cond (Nat.beq m 85) (true) (false)))) (cond (Nat.blt m 88) (cond (Nat.blt m 87) (cond (Nat.beq m 86) (false) (false)) (cond (Nat.beq m 87) (false) (false))) (cond (Nat.blt m 89) (cond (Nat.beq m 88) (false) (false)) (cond (Nat.beq m 89) (false) (false))))) (cond (Nat.blt m 94) (cond (Nat.blt m 92) (cond (Nat.blt m 91) (cond (Nat.beq m 90) (false) (false)) (cond (Nat.beq m 91) (false) (false))) (cond (Nat.blt m 93) (cond (Nat.beq m 92) (false) (false)) (cond (Nat.beq m 93) (false) (false)))) (cond (Nat.blt m 96) (cond (Nat.blt m 95) (cond (Nat.beq m 94) (false) (false)) (cond (Nat.beq m 95) (false) (false))) (cond (Nat.blt m 97) (cond (Nat.beq m 96) (false) (false)) (cond (Nat.blt m 98) (cond (Nat.beq m 97) (false) (false)) (cond (Nat.beq m 98) (false) (false)))))))) (cond (Nat.blt m 115) (cond (Nat.blt m 107) (cond (Nat.blt m 103) (cond (Nat.blt m 101) (cond (Nat.blt m 100) (cond (Nat.beq m 99) (false) (false)) (cond (Nat.beq m 100) (true) (false))) (cond (Nat.blt m 102) (cond (Nat.beq m 101) (false) (false)) (cond (Nat.beq m 102) (false) (false)))) (cond (Nat.blt m 105) (cond (Nat.blt m 104) (cond (Nat.beq m 103) (false) (false)) (cond (Nat.beq m 104) (false) (false))) (cond (Nat.blt m 106) (cond (Nat.beq m 105) (false) (false)) (cond (Nat.beq m 106) (false) (false))))) (cond (Nat.blt m 111) (cond (Nat.blt m 109) (cond (Nat.blt m 108) (cond (Nat.beq m 107) (false) (false)) (cond (Nat.beq m 108) (false) (false))) (cond (Nat.blt m 110) (cond (Nat.beq m 109) (true) (false)) (cond (Nat.beq m 110) (false) (false)))) (cond (Nat.blt m 113) (cond (Nat.blt m 112) (cond (Nat.beq m 111) (false) (false)) (cond (Nat.beq m 112) (false) (false))) (cond (Nat.blt m 114) (cond (Nat.beq m 113) (false) (false)) (cond (Nat.beq m 114) (false) (false)))))) (cond (Nat.blt m 123) (cond (Nat.blt m 119) (cond (Nat.blt m 117) (cond (Nat.blt m 116) (cond (Nat.beq m 115) (false) (false)) (cond (Nat.beq m 116) (false) (false))) (cond (Nat.blt m 118) (cond (Nat.beq m 117) (false) (false)) (cond (Nat.beq m 118) (false) (false)))) (cond (Nat.blt m 121) (cond (Nat.blt m 120) (cond (Nat.beq m 119) (false) (false)) (cond (Nat.beq m 120) (false) (false))) (cond (Nat.blt m 122) (cond (Nat.beq m 121) (false) (false)) (cond (Nat.beq m 122) (false) (false))))) (cond (Nat.blt m 127) (cond (Nat.blt m 125) (cond (Nat.blt m 124) (cond (Nat.beq m 123) (false) (false)) (cond (Nat.beq m 124) (false) (false))) (cond (Nat.blt m 126) (cond (Nat.beq m 125) (false) (false)) (cond (Nat.beq m 126) (false) (false)))) (cond (Nat.blt m 129) (cond (Nat.blt m 128) (cond (Nat.beq m 127) (false) (false)) (cond (Nat.beq m 128) (false) (false))) (cond (Nat.blt m 130) (cond (Nat.beq m 129) (false) (false)) (cond (Nat.blt m 131) (cond (Nat.beq m 130) (false) (false)) (cond (Nat.beq m 131) (false) (false)))))))))) (cond (Nat.blt m 198) (cond (Nat.blt m 165) (cond (Nat.blt m 148) (cond (Nat.blt m 140) (cond (Nat.blt m 136) (cond (Nat.blt m 134) (cond (Nat.blt m 133) (cond (Nat.beq m 132) (false) (false)) (cond (Nat.beq m 133) (false) (false))) (cond (Nat.blt m 135) (cond (Nat.beq m 134) (false) (false)) (cond (Nat.beq m 135) (false) (false)))) (cond (Nat.blt m 138) (cond (Nat.blt m 137) (cond (Nat.beq m 136) (false) (false)) (cond (Nat.beq m 137) (false) (false))) (cond (Nat.blt m 139) (cond (Nat.beq m 138) (false) (false)) (cond (Nat.beq m 139) (false) (false))))) (cond (Nat.blt m 144) (cond (Nat.blt m 142) (cond (Nat.blt m 141) (cond (Nat.beq m 140) (false) (false)) (cond (Nat.beq m 141) (false) (false))) (cond (Nat.blt m 143) (cond (Nat.beq m 142) (false) (false)) (cond (Nat.beq m 143) (false) (false)))) (cond (Nat.blt m 146) (cond (Nat.blt m 145) (cond (Nat.beq m 144) (false) (false)) (cond (Nat.beq m 145) (false) (false))) (cond (Nat.blt m 147) (cond (Nat.beq m 146) (false) (false)) (cond (Nat.beq m 147) (false) (false)))))) (cond (Nat.blt m 156) (cond (Nat.blt m 152) (cond (Nat.blt m 150) (cond (Nat.blt m 149) (cond (Nat.beq m 148) (false) (false)) (cond (Nat.beq m 149) (false) (false))) (cond (Nat.blt m 151) (cond (Nat.beq m 150) (false) (false)) (cond (Nat.beq m 151) (false) (false)))) (cond (Nat.blt m 154) (cond (Nat.blt m 153) (cond (Nat.beq m 152) (true) (false)) (cond (Nat.beq m 153) (false) (false))) (cond (Nat.blt m 155) (cond (Nat.beq m 154) (false) (false)) (cond (Nat.beq m 155) (false) (false))))) (cond (Nat.blt m 160) (cond (Nat.blt m 158) (cond (Nat.blt m 157) (cond (Nat.beq m 156) (false) (false)) (cond (Nat.beq m 157) (false) (false))) (cond (Nat.blt m 159) (cond (Nat.beq m 158) (false) (false)) (cond (Nat.beq m 159) (false) (false)))) (cond (Nat.blt m 162) (cond (Nat.blt m 161) (cond (Nat.beq m 160) (false) (false)) (cond (Nat.beq m 161) (false) (false))) (cond (Nat.blt m 163) (cond (Nat.beq m 162) (false) (false)) (cond (Nat.blt m 164) (cond (Nat.beq m 163) (false) (false)) (cond (Nat.beq m 164) (false) (false)))))))) (cond (Nat.blt m 181) (cond (Nat.blt m 173) (cond (Nat.blt m 169) (cond (Nat.blt m 167) (cond (Nat.blt m 166) (cond (Nat.beq m 165) (false) (false)) (cond (Nat.beq m 166) (false) (false))) (cond (Nat.blt m 168) (cond (Nat.beq m 167) (false) (false)) (cond (Nat.beq m 168) (false) (false)))) (cond (Nat.blt m 171) (cond (Nat.blt m 170) (cond (Nat.beq m 169) (false) (false)) (cond (Nat.beq m 170) (false) (false))) (cond (Nat.blt m 172) (cond (Nat.beq m 171) (false) (false)) (cond (Nat.beq m 172) (false) (false))))) (cond (Nat.blt m 177) (cond (Nat.blt m 175) (cond (Nat.blt m 174) (cond (Nat.beq m 173) (false) (false)) (cond (Nat.beq m 174) (false) (false))) (cond (Nat.blt m 176) (cond (Nat.beq m 175) (false) (false)) (cond (Nat.beq m 176) (false) (false)))) (cond (Nat.blt m 179) (cond (Nat.blt m 178) (cond (Nat.beq m 177) (false) (false)) (cond (Nat.beq m 178) (false) (false))) (cond (Nat.blt m 180) (cond (Nat.beq m 179) (false) (false)) (cond (Nat.beq m 180) (false) (false)))))) (cond (Nat.blt m 189) (cond (Nat.blt m 185) (cond (Nat.blt m 183) (cond (Nat.blt m 182) (cond (Nat.beq m 181) (false) (false)) (cond (Nat.beq m 182) (false) (false))) (cond (Nat.blt m 184) (cond (Nat.beq m 183) (false) (false)) (cond (Nat.beq m 184) (false) (false)))) (cond (Nat.blt m 187) (cond (Nat.blt m 186) (cond (Nat.beq m 185) (false) (false)) (cond (Nat.beq m 186) (false) (false))) (cond (Nat.blt m 188) (cond (Nat.beq m 187) (false) (false)) (cond (Nat.beq m 188) (false) (false))))) (cond (Nat.blt m 193) (cond (Nat.blt m 191) (cond (Nat.blt m 190) (cond (Nat.beq m 189) (false) (false)) (cond (Nat.beq m 190) (false) (false))) (cond (Nat.blt m 192) (cond (Nat.beq m 191) (false) (false)) (cond (Nat.beq m 192) (false) (false)))) (cond (Nat.blt m 195) (cond (Nat.blt m 194) (cond (Nat.beq m 193) (false) (false)) (cond (Nat.beq m 194) (false) (false))) (cond (Nat.blt m 196) (cond (Nat.beq m 195) (false) (false)) (cond (Nat.blt m 197) (cond (Nat.beq m 196) (false) (false)) (cond (Nat.beq m 197) (false) (false))))))))) (cond (Nat.blt m 231) (cond (Nat.blt m 214) (cond (Nat.blt m 206) (cond (Nat.blt m 202) (cond (Nat.blt m 200) (cond (Nat.blt m 199) (cond (Nat.beq m 198) (false) (false)) (cond (Nat.beq m 199) (false) (false))) (cond (Nat.blt m 201) (cond (Nat.beq m 200) (false) (false)) (cond (Nat.beq m 201) (false) (false)))) (cond (Nat.blt m 204) (cond (Nat.blt m 203) (cond (Nat.beq m 202) (false) (false)) (cond (Nat.beq m 203) (false) (false))) (cond (Nat.blt m 205) (cond (Nat.beq m 204) (false) (false)) (cond (Nat.beq m 205) (false) (false))))) (cond (Nat.blt m 210) (cond (Nat.blt m 208) (cond (Nat.blt m 207) (cond (Nat.beq m 206) (false) (false)) (cond (Nat.beq m 207) (false) (false))) (cond (Nat.blt m 209) (cond (Nat.beq m 208) (false) (false)) (cond (Nat.beq m 209) (false) (false)))) (cond (Nat.blt m 212) (cond (Nat.blt m 211) (cond (Nat.beq m 210) (false) (false)) (cond (Nat.beq m 211) (false) (false))) (cond (Nat.blt m 213) (cond (Nat.beq m 212) (false) (false)) (cond (Nat.beq m 213) (false) (false)))))) (cond (Nat.blt m 222) (cond (Nat.blt m 218) (cond (Nat.blt m 216) (cond (Nat.blt m 215) (cond (Nat.beq m 214) (false) (false)) (cond (Nat.beq m 215) (false) (false))) (cond (Nat.blt m 217) (cond (Nat.beq m 216) (false) (false)) (cond (Nat.beq m 217) (false) (false)))) (cond (Nat.blt m 220) (cond (Nat.blt m 219) (cond (Nat.beq m 218) (false) (false)) (cond (Nat.beq m 219) (false) (false))) (cond (Nat.blt m 221) (cond (Nat.beq m 220) (false) (false)) (cond (Nat.beq m 221) (false) (false))))) (cond (Nat.blt m 226) (cond (Nat.blt m 224) (cond (Nat.blt m 223) (cond (Nat.beq m 222) (false) (false)) (cond (Nat.beq m 223) (false) (false))) (cond (Nat.blt m 225) (cond (Nat.beq m 224) (false) (false)) (cond (Nat.beq m 225) (false) (false)))) (cond (Nat.blt m 228) (cond (Nat.blt m 227) (cond (Nat.beq m 226) (false) (false)) (cond (Nat.beq m 227) (false) (false))) (cond (Nat.blt m 229) (cond (Nat.beq m 228) (false) (false)) (cond (Nat.blt m 230) (cond (Nat.beq m 229) (false) (false)) (cond (Nat.beq m 230) (false) (false)))))))) (cond (Nat.blt m 247) (cond (Nat.blt m 239) (cond (Nat.blt m 235) (cond (Nat.blt m 233) (cond (Nat.blt m 232) (cond (Nat.beq m 231) (false) (false)) (cond (Nat.beq m 232) (false) (false))) (cond (Nat.blt m 234) (cond (Nat.beq m 233) (false) (false)) (cond (Nat.beq m 234) (false) (false)))) (cond (Nat.blt m 237) (cond (Nat.blt m 236) (cond (Nat.beq m 235) (false) (false)) (cond (Nat.beq m 236) (false) (false))) (cond (Nat.blt m 238) (cond (Nat.beq m 237) (false) (false)) (cond (Nat.beq m 238) (false) (false))))) (cond (Nat.blt m 243) (cond (Nat.blt m 241) (cond (Nat.blt m 240) (cond (Nat.beq m 239) (false) (false)) (cond (Nat.beq m 240) (false) (false))) (cond (Nat.blt m 242) (cond (Nat.beq m 241) (false) (false)) (cond (Nat.beq m 242) (false) (false)))) (cond (Nat.blt m 245) (cond (Nat.blt m 244) (cond (Nat.beq m 243) (false) (false)) (cond (Nat.beq m 244) (false) (false))) (cond (Nat.blt m 246) (cond (Nat.beq m 245) (false) (false)) (cond (Nat.beq m 246) (false) (false)))))) (cond (Nat.blt m 255) (cond (Nat.blt m 251) (cond (Nat.blt m 249) (cond (Nat.blt m 248) (cond (Nat.beq m 247) (false) (false)) (cond (Nat.beq m 248) (false) (false))) (cond (Nat.blt m 250) (cond (Nat.beq m 249) (false) (false)) (cond (Nat.beq m 250) (false) (false)))) (cond (Nat.blt m 253) (cond (Nat.blt m 252) (cond (Nat.beq m 251) (false) (false)) (cond (Nat.beq m 252) (false) (false))) (cond (Nat.blt m 254) (cond (Nat.beq m 253) (false) (false)) (cond (Nat.beq m 254) (false) (false))))) (cond (Nat.blt m 259) (cond (Nat.blt m 257) (cond (Nat.blt m 256) (cond (Nat.beq m 255) (false) (false)) (cond (Nat.beq m 256) (false) (false))) (cond (Nat.blt m 258) (cond (Nat.beq m 257) (false) (false)) (cond (Nat.beq m 258) (false) (false)))) (cond (Nat.blt m 261) (cond (Nat.blt m 260) (cond (Nat.beq m 259) (false) (false)) (cond (Nat.beq m 260) (false) (false))) (cond (Nat.blt m 262) (cond (Nat.beq m 261) (false) (false)) (cond (Nat.blt m 263) (cond (Nat.beq m 262) (false) (false)) (cond (Nat.beq m 263) (false) (false))))))))))
def mFr (m : Nat) : Nat := cond (Nat.blt m 132) (cond (Nat.blt m 66) (cond (Nat.blt m 33) (cond (Nat.blt m 16) (cond (Nat.blt m 8) (cond (Nat.blt m 4) (cond (Nat.blt m 2) (cond (Nat.blt m 1) (cond (Nat.beq m 0) (11) (0)) (cond (Nat.beq m 1) (1) (0))) (cond (Nat.blt m 3) (cond (Nat.beq m 2) (1) (0)) (cond (Nat.beq m 3) (2) (0)))) (cond (Nat.blt m 6) (cond (Nat.blt m 5) (cond (Nat.beq m 4) (0) (0)) (cond (Nat.beq m 5) (0) (0))) (cond (Nat.blt m 7) (cond (Nat.beq m 6) (1) (0)) (cond (Nat.beq m 7) (1) (0))))) (cond (Nat.blt m 12) (cond (Nat.blt m 10) (cond (Nat.blt m 9) (cond (Nat.beq m 8) (2) (0)) (cond (Nat.beq m 9) (0) (0))) (cond (Nat.blt m 11) (cond (Nat.beq m 10) (1) (0)) (cond (Nat.beq m 11) (2) (0)))) (cond (Nat.blt m 14) (cond (Nat.blt m 13) (cond (Nat.beq m 12) (6) (0)) (cond (Nat.beq m 13) (1) (0))) (cond (Nat.blt m 15) (cond (Nat.beq m 14) (2) (0)) (cond (Nat.beq m 15) (5) (0)))))) (cond (Nat.blt m 24) (cond (Nat.blt m 20) (cond (Nat.blt m 18) (cond (Nat.blt m 17) (cond (Nat.beq m 16) (2) (0)) (cond (Nat.beq m 17) (0) (0))) (cond (Nat.blt m 19) (cond (Nat.beq m 18) (1) (0)) (cond (Nat.beq m 19) (0) (0)))) (cond (Nat.blt m 22) (cond (Nat.blt m 21) (cond (Nat.beq m 20) (0) (0)) (cond (Nat.beq m 21) (1) (0))) (cond (Nat.blt m 23) (cond (Nat.beq m 22) (2) (0)) (cond (Nat.beq m 23) (2) (0))))) (cond (Nat.blt m 28) (cond (Nat.blt m 26) (cond (Nat.blt m 25) (cond (Nat.beq m 24) (2) (0)) (cond (Nat.beq m 25) (2) (0))) (cond (Nat.blt m 27) (cond (Nat.beq m 26) (1) (0)) (cond (Nat.beq m 27) (1) (0)))) (cond (Nat.blt m 30) (cond (Nat.blt m 29) (cond (Nat.beq m 28) (1) (0)) (cond (Nat.beq m 29) (1) (0))) (cond (Nat.blt m 31) (cond (Nat.beq m 30) (1) (0)) (cond (Nat.blt m 32) (cond (Nat.beq m 31) (2) (0)) (cond (Nat.beq m 32) (3) (0)))))))) (cond (Nat.blt m 49) (cond (Nat.blt m 41) (cond (Nat.blt m 37) (cond (Nat.blt m 35) (cond (Nat.blt m 34) (cond (Nat.beq m 33) (0) (0)) (cond (Nat.beq m 34) (0) (0))) (cond (Nat.blt m 36) (cond (Nat.beq m 35) (0) (0)) (cond (Nat.beq m 36) (4) (0)))) (cond (Nat.blt m 39) (cond (Nat.blt m 38) (cond (Nat.beq m 37) (3) (0)) (cond (Nat.beq m 38) (2) (0))) (cond (Nat.blt m 40) (cond (Nat.beq m 39) (0) (0)) (cond (Nat.beq m 40) (1) (0))))) (cond (Nat.blt m 45) (cond (Nat.blt m 43) (cond (Nat.blt m 42) (cond (Nat.beq m 41) (1) (0)) (cond (Nat.beq m 42) (2) (0))) (cond (Nat.blt m 44) (cond (Nat.beq m 43) (1) (0)) (cond (Nat.beq m 44) (3) (0)))) (cond (Nat.blt m 47) (cond (Nat.blt m 46) (cond (Nat.beq m 45) (1) (0)) (cond (Nat.beq m 46) (2) (0))) (cond (Nat.blt m 48) (cond (Nat.beq m 47) (4) (0)) (cond (Nat.beq m 48) (3) (0)))))) (cond (Nat.blt m 57) (cond (Nat.blt m 53) (cond (Nat.blt m 51) (cond (Nat.blt m 50) (cond (Nat.beq m 49) (1) (0)) (cond (Nat.beq m 50) (0) (0))) (cond (Nat.blt m 52) (cond (Nat.beq m 51) (1) (0)) (cond (Nat.beq m 52) (3) (0)))) (cond (Nat.blt m 55) (cond (Nat.blt m 54) (cond (Nat.beq m 53) (1) (0)) (cond (Nat.beq m 54) (3) (0))) (cond (Nat.blt m 56) (cond (Nat.beq m 55) (1) (0)) (cond (Nat.beq m 56) (1) (0))))) (cond (Nat.blt m 61) (cond (Nat.blt m 59) (cond (Nat.blt m 58) (cond (Nat.beq m 57) (1) (0)) (cond (Nat.beq m 58) (3) (0))) (cond (Nat.blt m 60) (cond (Nat.beq m 59) (1) (0)) (cond (Nat.beq m 60) (2) (0)))) (cond (Nat.blt m 63) (cond (Nat.blt m 62) (cond (Nat.beq m 61) (3) (0)) (cond (Nat.beq m 62) (1) (0))) (cond (Nat.blt m 64) (cond (Nat.beq m 63) (5) (0)) (cond (Nat.blt m 65) (cond (Nat.beq m 64) (1) (0)) (cond (Nat.beq m 65) (3) (0))))))))) (cond (Nat.blt m 99) (cond (Nat.blt m 82) (cond (Nat.blt m 74) (cond (Nat.blt m 70) (cond (Nat.blt m 68) (cond (Nat.blt m 67) (cond (Nat.beq m 66) (3) (0)) (cond (Nat.beq m 67) (0) (0))) (cond (Nat.blt m 69) (cond (Nat.beq m 68) (1) (0)) (cond (Nat.beq m 69) (7) (0)))) (cond (Nat.blt m 72) (cond (Nat.blt m 71) (cond (Nat.beq m 70) (6) (0)) (cond (Nat.beq m 71) (5) (0))) (cond (Nat.blt m 73) (cond (Nat.beq m 72) (5) (0)) (cond (Nat.beq m 73) (3) (0))))) (cond (Nat.blt m 78) (cond (Nat.blt m 76) (cond (Nat.blt m 75) (cond (Nat.beq m 74) (3) (0)) (cond (Nat.beq m 75) (3) (0))) (cond (Nat.blt m 77) (cond (Nat.beq m 76) (3) (0)) (cond (Nat.beq m 77) (3) (0)))) (cond (Nat.blt m 80) (cond (Nat.blt m 79) (cond (Nat.beq m 78) (4) (0)) (cond (Nat.beq m 79) (2) (0))) (cond (Nat.blt m 81) (cond (Nat.beq m 80) (1) (0)) (cond (Nat.beq m 81) (0) (0)))))) (cond (Nat.blt m 90) (cond (Nat.blt m 86) (cond (Nat.blt m 84) (cond (Nat.blt m 83) (cond (Nat.beq m 82) (0) (0)) (cond (Nat.beq m 83) (0) (0))) (cond (Nat.blt m 85) (cond (Nat.beq m 84) (0) (0)) (cond (Nat.beq m 85) (2) (0)))) (cond (Nat.blt m 88) (cond (Nat.blt m 87) (cond (Nat.beq m 86) (2) (0)) (cond (Nat.beq m 87) (1) (0))) (cond (Nat.blt m 89) (cond (Nat.beq m 88) (2) (0)) (cond (Nat.beq m 89) (6) (0))))) (cond (Nat.blt m 94) (cond (Nat.blt m 92) (cond (Nat.blt m 91) (cond (Nat.beq m 90) (4) (0)) (cond (Nat.beq m 91) (3) (0))) (cond (Nat.blt m 93) (cond (Nat.beq m 92) (5) (0)) (cond (Nat.beq m 93) (0) (0)))) (cond (Nat.blt m 96) (cond (Nat.blt m 95) (cond (Nat.beq m 94) (4) (0)) (cond (Nat.beq m 95) (4) (0))) (cond (Nat.blt m 97) (cond (Nat.beq m 96) (1) (0)) (cond (Nat.blt m 98) (cond (Nat.beq m 97) (0) (0)) (cond (Nat.beq m 98) (0) (0)))))))) (cond (Nat.blt m 115) (cond (Nat.blt m 107) (cond (Nat.blt m 103) (cond (Nat.blt m 101) (cond (Nat.blt m 100) (cond (Nat.beq m 99) (1) (0)) (cond (Nat.beq m 100) (2) (0))) (cond (Nat.blt m 102) (cond (Nat.beq m 101) (5) (0)) (cond (Nat.beq m 102) (5) (0)))) (cond (Nat.blt m 105) (cond (Nat.blt m 104) (cond (Nat.beq m 103) (6) (0)) (cond (Nat.beq m 104) (6) (0))) (cond (Nat.blt m 106) (cond (Nat.beq m 105) (5) (0)) (cond (Nat.beq m 106) (5) (0))))) (cond (Nat.blt m 111) (cond (Nat.blt m 109) (cond (Nat.blt m 108) (cond (Nat.beq m 107) (3) (0)) (cond (Nat.beq m 108) (6) (0))) (cond (Nat.blt m 110) (cond (Nat.beq m 109) (3) (0)) (cond (Nat.beq m 110) (2) (0)))) (cond (Nat.blt m 113) (cond (Nat.blt m 112) (cond (Nat.beq m 111) (1) (0)) (cond (Nat.beq m 112) (0) (0))) (cond (Nat.blt m 114) (cond (Nat.beq m 113) (8) (0)) (cond (Nat.beq m 114) (1) (0)))))) (cond (Nat.blt m 123) (cond (Nat.blt m 119) (cond (Nat.blt m 117) (cond (Nat.blt m 116) (cond (Nat.beq m 115) (4) (0)) (cond (Nat.beq m 116) (6) (0))) (cond (Nat.blt m 118) (cond (Nat.beq m 117) (6) (0)) (cond (Nat.beq m 118) (6) (0)))) (cond (Nat.blt m 121) (cond (Nat.blt m 120) (cond (Nat.beq m 119) (6) (0)) (cond (Nat.beq m 120) (6) (0))) (cond (Nat.blt m 122) (cond (Nat.beq m 121) (6) (0)) (cond (Nat.beq m 122) (6) (0))))) (cond (Nat.blt m 127) (cond (Nat.blt m 125) (cond (Nat.blt m 124) (cond (Nat.beq m 123) (5) (0)) (cond (Nat.beq m 124) (6) (0))) (cond (Nat.blt m 126) (cond (Nat.beq m 125) (4) (0)) (cond (Nat.beq m 126) (4) (0)))) (cond (Nat.blt m 129) (cond (Nat.blt m 128) (cond (Nat.beq m 127) (4) (0)) (cond (Nat.beq m 128) (4) (0))) (cond (Nat.blt m 130) (cond (Nat.beq m 129) (1) (0)) (cond (Nat.blt m 131) (cond (Nat.beq m 130) (1) (0)) (cond (Nat.beq m 131) (1) (0)))))))))) (cond (Nat.blt m 198) (cond (Nat.blt m 165) (cond (Nat.blt m 148) (cond (Nat.blt m 140) (cond (Nat.blt m 136) (cond (Nat.blt m 134) (cond (Nat.blt m 133) (cond (Nat.beq m 132) (2) (0)) (cond (Nat.beq m 133) (2) (0))) (cond (Nat.blt m 135) (cond (Nat.beq m 134) (4) (0)) (cond (Nat.beq m 135) (3) (0)))) (cond (Nat.blt m 138) (cond (Nat.blt m 137) (cond (Nat.beq m 136) (6) (0)) (cond (Nat.beq m 137) (7) (0))) (cond (Nat.blt m 139) (cond (Nat.beq m 138) (7) (0)) (cond (Nat.beq m 139) (6) (0))))) (cond (Nat.blt m 144) (cond (Nat.blt m 142) (cond (Nat.blt m 141) (cond (Nat.beq m 140) (4) (0)) (cond (Nat.beq m 141) (7) (0))) (cond (Nat.blt m 143) (cond (Nat.beq m 142) (7) (0)) (cond (Nat.beq m 143) (0) (0)))) (cond (Nat.blt m 146) (cond (Nat.blt m 145) (cond (Nat.beq m 144) (7) (0)) (cond (Nat.beq m 145) (1) (0))) (cond (Nat.blt m 147) (cond (Nat.beq m 146) (3) (0)) (cond (Nat.beq m 147) (5) (0)))))) (cond (Nat.blt m 156) (cond (Nat.blt m 152) (cond (Nat.blt m 150) (cond (Nat.blt m 149) (cond (Nat.beq m 148) (4) (0)) (cond (Nat.beq m 149) (0) (0))) (cond (Nat.blt m 151) (cond (Nat.beq m 150) (0) (0)) (cond (Nat.beq m 151) (0) (0)))) (cond (Nat.blt m 154) (cond (Nat.blt m 153) (cond (Nat.beq m 152) (1) (0)) (cond (Nat.beq m 153) (0) (0))) (cond (Nat.blt m 155) (cond (Nat.beq m 154) (0) (0)) (cond (Nat.beq m 155) (1) (0))))) (cond (Nat.blt m 160) (cond (Nat.blt m 158) (cond (Nat.blt m 157) (cond (Nat.beq m 156) (0) (0)) (cond (Nat.beq m 157) (0) (0))) (cond (Nat.blt m 159) (cond (Nat.beq m 158) (0) (0)) (cond (Nat.beq m 159) (0) (0)))) (cond (Nat.blt m 162) (cond (Nat.blt m 161) (cond (Nat.beq m 160) (0) (0)) (cond (Nat.beq m 161) (1) (0))) (cond (Nat.blt m 163) (cond (Nat.beq m 162) (0) (0)) (cond (Nat.blt m 164) (cond (Nat.beq m 163) (1) (0)) (cond (Nat.beq m 164) (4) (0)))))))) (cond (Nat.blt m 181) (cond (Nat.blt m 173) (cond (Nat.blt m 169) (cond (Nat.blt m 167) (cond (Nat.blt m 166) (cond (Nat.beq m 165) (5) (0)) (cond (Nat.beq m 166) (1) (0))) (cond (Nat.blt m 168) (cond (Nat.beq m 167) (2) (0)) (cond (Nat.beq m 168) (6) (0)))) (cond (Nat.blt m 171) (cond (Nat.blt m 170) (cond (Nat.beq m 169) (0) (0)) (cond (Nat.beq m 170) (0) (0))) (cond (Nat.blt m 172) (cond (Nat.beq m 171) (3) (0)) (cond (Nat.beq m 172) (3) (0))))) (cond (Nat.blt m 177) (cond (Nat.blt m 175) (cond (Nat.blt m 174) (cond (Nat.beq m 173) (6) (0)) (cond (Nat.beq m 174) (3) (0))) (cond (Nat.blt m 176) (cond (Nat.beq m 175) (7) (0)) (cond (Nat.beq m 176) (8) (0)))) (cond (Nat.blt m 179) (cond (Nat.blt m 178) (cond (Nat.beq m 177) (0) (0)) (cond (Nat.beq m 178) (1) (0))) (cond (Nat.blt m 180) (cond (Nat.beq m 179) (2) (0)) (cond (Nat.beq m 180) (0) (0)))))) (cond (Nat.blt m 189) (cond (Nat.blt m 185) (cond (Nat.blt m 183) (cond (Nat.blt m 182) (cond (Nat.beq m 181) (0) (0)) (cond (Nat.beq m 182) (1) (0))) (cond (Nat.blt m 184) (cond (Nat.beq m 183) (1) (0)) (cond (Nat.beq m 184) (0) (0)))) (cond (Nat.blt m 187) (cond (Nat.blt m 186) (cond (Nat.beq m 185) (0) (0)) (cond (Nat.beq m 186) (0) (0))) (cond (Nat.blt m 188) (cond (Nat.beq m 187) (0) (0)) (cond (Nat.beq m 188) (1) (0))))) (cond (Nat.blt m 193) (cond (Nat.blt m 191) (cond (Nat.blt m 190) (cond (Nat.beq m 189) (0) (0)) (cond (Nat.beq m 190) (1) (0))) (cond (Nat.blt m 192) (cond (Nat.beq m 191) (2) (0)) (cond (Nat.beq m 192) (3) (0)))) (cond (Nat.blt m 195) (cond (Nat.blt m 194) (cond (Nat.beq m 193) (4) (0)) (cond (Nat.beq m 194) (4) (0))) (cond (Nat.blt m 196) (cond (Nat.beq m 195) (0) (0)) (cond (Nat.blt m 197) (cond (Nat.beq m 196) (1) (0)) (cond (Nat.beq m 197) (0) (0))))))))) (cond (Nat.blt m 231) (cond (Nat.blt m 214) (cond (Nat.blt m 206) (cond (Nat.blt m 202) (cond (Nat.blt m 200) (cond (Nat.blt m 199) (cond (Nat.beq m 198) (1) (0)) (cond (Nat.beq m 199) (2) (0))) (cond (Nat.blt m 201) (cond (Nat.beq m 200) (0) (0)) (cond (Nat.beq m 201) (3) (0)))) (cond (Nat.blt m 204) (cond (Nat.blt m 203) (cond (Nat.beq m 202) (1) (0)) (cond (Nat.beq m 203) (0) (0))) (cond (Nat.blt m 205) (cond (Nat.beq m 204) (5) (0)) (cond (Nat.beq m 205) (5) (0))))) (cond (Nat.blt m 210) (cond (Nat.blt m 208) (cond (Nat.blt m 207) (cond (Nat.beq m 206) (2) (0)) (cond (Nat.beq m 207) (2) (0))) (cond (Nat.blt m 209) (cond (Nat.beq m 208) (5) (0)) (cond (Nat.beq m 209) (6) (0)))) (cond (Nat.blt m 212) (cond (Nat.blt m 211) (cond (Nat.beq m 210) (4) (0)) (cond (Nat.beq m 211) (5) (0))) (cond (Nat.blt m 213) (cond (Nat.beq m 212) (5) (0)) (cond (Nat.beq m 213) (3) (0)))))) (cond (Nat.blt m 222) (cond (Nat.blt m 218) (cond (Nat.blt m 216) (cond (Nat.blt m 215) (cond (Nat.beq m 214) (7) (0)) (cond (Nat.beq m 215) (8) (0))) (cond (Nat.blt m 217) (cond (Nat.beq m 216) (9) (0)) (cond (Nat.beq m 217) (9) (0)))) (cond (Nat.blt m 220) (cond (Nat.blt m 219) (cond (Nat.beq m 218) (9) (0)) (cond (Nat.beq m 219) (9) (0))) (cond (Nat.blt m 221) (cond (Nat.beq m 220) (9) (0)) (cond (Nat.beq m 221) (9) (0))))) (cond (Nat.blt m 226) (cond (Nat.blt m 224) (cond (Nat.blt m 223) (cond (Nat.beq m 222) (9) (0)) (cond (Nat.beq m 223) (2) (0))) (cond (Nat.blt m 225) (cond (Nat.beq m 224) (8) (0)) (cond (Nat.beq m 225) (2) (0)))) (cond (Nat.blt m 228) (cond (Nat.blt m 227) (cond (Nat.beq m 226) (2) (0)) (cond (Nat.beq m 227) (2) (0))) (cond (Nat.blt m 229) (cond (Nat.beq m 228) (1) (0)) (cond (Nat.blt m 230) (cond (Nat.beq m 229) (1) (0)) (cond (Nat.beq m 230) (1) (0)))))))) (cond (Nat.blt m 247) (cond (Nat.blt m 239) (cond (Nat.blt m 235) (cond (Nat.blt m 233) (cond (Nat.blt m 232) (cond (Nat.beq m 231) (1) (0)) (cond (Nat.beq m 232) (3) (0))) (cond (Nat.blt m 234) (cond (Nat.beq m 233) (5) (0)) (cond (Nat.beq m 234) (3) (0)))) (cond (Nat.blt m 237) (cond (Nat.blt m 236) (cond (Nat.beq m 235) (1) (0)) (cond (Nat.beq m 236) (1) (0))) (cond (Nat.blt m 238) (cond (Nat.beq m 237) (8) (0)) (cond (Nat.beq m 238) (9) (0))))) (cond (Nat.blt m 243) (cond (Nat.blt m 241) (cond (Nat.blt m 240) (cond (Nat.beq m 239) (5) (0)) (cond (Nat.beq m 240) (5) (0))) (cond (Nat.blt m 242) (cond (Nat.beq m 241) (8) (0)) (cond (Nat.beq m 242) (9) (0)))) (cond (Nat.blt m 245) (cond (Nat.blt m 244) (cond (Nat.beq m 243) (9) (0)) (cond (Nat.beq m 244) (8) (0))) (cond (Nat.blt m 246) (cond (Nat.beq m 245) (3) (0)) (cond (Nat.beq m 246) (9) (0)))))) (cond (Nat.blt m 255) (cond (Nat.blt m 251) (cond (Nat.blt m 249) (cond (Nat.blt m 248) (cond (Nat.beq m 247) (5) (0)) (cond (Nat.beq m 248) (0) (0))) (cond (Nat.blt m 250) (cond (Nat.beq m 249) (1) (0)) (cond (Nat.beq m 250) (8) (0)))) (cond (Nat.blt m 253) (cond (Nat.blt m 252) (cond (Nat.beq m 251) (9) (0)) (cond (Nat.beq m 252) (0) (0))) (cond (Nat.blt m 254) (cond (Nat.beq m 253) (10) (0)) (cond (Nat.beq m 254) (0) (0))))) (cond (Nat.blt m 259) (cond (Nat.blt m 257) (cond (Nat.blt m 256) (cond (Nat.beq m 255) (0) (0)) (cond (Nat.beq m 256) (1) (0))) (cond (Nat.blt m 258) (cond (Nat.beq m 257) (8) (0)) (cond (Nat.beq m 258) (9) (0)))) (cond (Nat.blt m 261) (cond (Nat.blt m 260) (cond (Nat.beq m 259) (10) (0)) (cond (Nat.beq m 260) (1) (0))) (cond (Nat.blt m 262) (cond (Nat.beq m 261) (3) (0)) (cond (Nat.blt m 263) (cond (Nat.beq m 262) (5) (0)) (cond (Nat.beq m 263) (0) (0))))))))))
def mLo (m : Nat) : Nat := cond (Nat.blt m 132) (cond (Nat.blt m 66) (cond (Nat.blt m 33) (cond (Nat.blt m 16) (cond (Nat.blt m 8) (cond (Nat.blt m 4) (cond (Nat.blt m 2) (cond (Nat.blt m 1) (cond (Nat.beq m 0) (255) (0)) (cond (Nat.beq m 1) (20) (0))) (cond (Nat.blt m 3) (cond (Nat.beq m 2) (23) (0)) (cond (Nat.beq m 3) (92) (0)))) (cond (Nat.blt m 6) (cond (Nat.blt m 5) (cond (Nat.beq m 4) (0) (0)) (cond (Nat.beq m 5) (0) (0))) (cond (Nat.blt m 7) (cond (Nat.beq m 6) (21) (0)) (cond (Nat.beq m 7) (22) (0))))) (cond (Nat.blt m 12) (cond (Nat.blt m 10) (cond (Nat.blt m 9) (cond (Nat.beq m 8) (45) (0)) (cond (Nat.beq m 9) (0) (0))) (cond (Nat.blt m 11) (cond (Nat.beq m 10) (21) (0)) (cond (Nat.beq m 11) (44) (0)))) (cond (Nat.blt m 14) (cond (Nat.blt m 13) (cond (Nat.beq m 12) (143) (0)) (cond (Nat.beq m 13) (21) (0))) (cond (Nat.blt m 15) (cond (Nat.beq m 14) (42) (0)) (cond (Nat.beq m 15) (121) (0)))))) (cond (Nat.blt m 24) (cond (Nat.blt m 20) (cond (Nat.blt m 18) (cond (Nat.blt m 17) (cond (Nat.beq m 16) (42) (0)) (cond (Nat.beq m 17) (0) (0))) (cond (Nat.blt m 19) (cond (Nat.beq m 18) (22) (0)) (cond (Nat.beq m 19) (0) (0)))) (cond (Nat.blt m 22) (cond (Nat.blt m 21) (cond (Nat.beq m 20) (0) (0)) (cond (Nat.beq m 21) (22) (0))) (cond (Nat.blt m 23) (cond (Nat.beq m 22) (92) (0)) (cond (Nat.beq m 23) (92) (0))))) (cond (Nat.blt m 28) (cond (Nat.blt m 26) (cond (Nat.blt m 25) (cond (Nat.beq m 24) (92) (0)) (cond (Nat.beq m 25) (92) (0))) (cond (Nat.blt m 27) (cond (Nat.beq m 26) (21) (0)) (cond (Nat.beq m 27) (21) (0)))) (cond (Nat.blt m 30) (cond (Nat.blt m 29) (cond (Nat.beq m 28) (22) (0)) (cond (Nat.beq m 29) (21) (0))) (cond (Nat.blt m 31) (cond (Nat.beq m 30) (21) (0)) (cond (Nat.blt m 32) (cond (Nat.beq m 31) (45) (0)) (cond (Nat.beq m 32) (67) (0)))))))) (cond (Nat.blt m 49) (cond (Nat.blt m 41) (cond (Nat.blt m 37) (cond (Nat.blt m 35) (cond (Nat.blt m 34) (cond (Nat.beq m 33) (0) (0)) (cond (Nat.beq m 34) (0) (0))) (cond (Nat.blt m 36) (cond (Nat.beq m 35) (0) (0)) (cond (Nat.beq m 36) (88) (0)))) (cond (Nat.blt m 39) (cond (Nat.blt m 38) (cond (Nat.beq m 37) (66) (0)) (cond (Nat.beq m 38) (42) (0))) (cond (Nat.blt m 40) (cond (Nat.beq m 39) (0) (0)) (cond (Nat.beq m 40) (21) (0))))) (cond (Nat.blt m 45) (cond (Nat.blt m 43) (cond (Nat.blt m 42) (cond (Nat.beq m 41) (21) (0)) (cond (Nat.beq m 42) (46) (0))) (cond (Nat.blt m 44) (cond (Nat.beq m 43) (21) (0)) (cond (Nat.beq m 44) (71) (0)))) (cond (Nat.blt m 47) (cond (Nat.blt m 46) (cond (Nat.beq m 45) (21) (0)) (cond (Nat.beq m 46) (44) (0))) (cond (Nat.blt m 48) (cond (Nat.beq m 47) (96) (0)) (cond (Nat.beq m 48) (71) (0)))))) (cond (Nat.blt m 57) (cond (Nat.blt m 53) (cond (Nat.blt m 51) (cond (Nat.blt m 50) (cond (Nat.beq m 49) (20) (0)) (cond (Nat.beq m 50) (0) (0))) (cond (Nat.blt m 52) (cond (Nat.beq m 51) (22) (0)) (cond (Nat.beq m 52) (66) (0)))) (cond (Nat.blt m 55) (cond (Nat.blt m 54) (cond (Nat.beq m 53) (22) (0)) (cond (Nat.beq m 54) (66) (0))) (cond (Nat.blt m 56) (cond (Nat.beq m 55) (24) (0)) (cond (Nat.beq m 56) (24) (0))))) (cond (Nat.blt m 61) (cond (Nat.blt m 59) (cond (Nat.blt m 58) (cond (Nat.beq m 57) (24) (0)) (cond (Nat.beq m 58) (66) (0))) (cond (Nat.blt m 60) (cond (Nat.beq m 59) (22) (0)) (cond (Nat.beq m 60) (49) (0)))) (cond (Nat.blt m 63) (cond (Nat.blt m 62) (cond (Nat.beq m 61) (71) (0)) (cond (Nat.beq m 62) (24) (0))) (cond (Nat.blt m 64) (cond (Nat.beq m 63) (121) (0)) (cond (Nat.blt m 65) (cond (Nat.beq m 64) (20) (0)) (cond (Nat.beq m 65) (114) (0))))))))) (cond (Nat.blt m 99) (cond (Nat.blt m 82) (cond (Nat.blt m 74) (cond (Nat.blt m 70) (cond (Nat.blt m 68) (cond (Nat.blt m 67) (cond (Nat.beq m 66) (114) (0)) (cond (Nat.beq m 67) (0) (0))) (cond (Nat.blt m 69) (cond (Nat.beq m 68) (20) (0)) (cond (Nat.beq m 69) (186) (0)))) (cond (Nat.blt m 72) (cond (Nat.blt m 71) (cond (Nat.beq m 70) (165) (0)) (cond (Nat.beq m 71) (140) (0))) (cond (Nat.blt m 73) (cond (Nat.beq m 72) (140) (0)) (cond (Nat.beq m 73) (63) (0))))) (cond (Nat.blt m 78) (cond (Nat.blt m 76) (cond (Nat.blt m 75) (cond (Nat.beq m 74) (63) (0)) (cond (Nat.beq m 75) (63) (0))) (cond (Nat.blt m 77) (cond (Nat.beq m 76) (63) (0)) (cond (Nat.beq m 77) (63) (0)))) (cond (Nat.blt m 80) (cond (Nat.blt m 79) (cond (Nat.beq m 78) (118) (0)) (cond (Nat.beq m 79) (41) (0))) (cond (Nat.blt m 81) (cond (Nat.beq m 80) (21) (0)) (cond (Nat.beq m 81) (0) (0)))))) (cond (Nat.blt m 90) (cond (Nat.blt m 86) (cond (Nat.blt m 84) (cond (Nat.blt m 83) (cond (Nat.beq m 82) (0) (0)) (cond (Nat.beq m 83) (0) (0))) (cond (Nat.blt m 85) (cond (Nat.beq m 84) (0) (0)) (cond (Nat.beq m 85) (44) (0)))) (cond (Nat.blt m 88) (cond (Nat.blt m 87) (cond (Nat.beq m 86) (45) (0)) (cond (Nat.beq m 87) (21) (0))) (cond (Nat.blt m 89) (cond (Nat.beq m 88) (42) (0)) (cond (Nat.beq m 89) (168) (0))))) (cond (Nat.blt m 94) (cond (Nat.blt m 92) (cond (Nat.blt m 91) (cond (Nat.beq m 90) (137) (0)) (cond (Nat.beq m 91) (114) (0))) (cond (Nat.blt m 93) (cond (Nat.beq m 92) (138) (0)) (cond (Nat.beq m 93) (0) (0)))) (cond (Nat.blt m 96) (cond (Nat.blt m 95) (cond (Nat.beq m 94) (88) (0)) (cond (Nat.beq m 95) (114) (0))) (cond (Nat.blt m 97) (cond (Nat.beq m 96) (22) (0)) (cond (Nat.blt m 98) (cond (Nat.beq m 97) (0) (0)) (cond (Nat.beq m 98) (0) (0)))))))) (cond (Nat.blt m 115) (cond (Nat.blt m 107) (cond (Nat.blt m 103) (cond (Nat.blt m 101) (cond (Nat.blt m 100) (cond (Nat.beq m 99) (68) (0)) (cond (Nat.beq m 100) (44) (0))) (cond (Nat.blt m 102) (cond (Nat.beq m 101) (121) (0)) (cond (Nat.beq m 102) (121) (0)))) (cond (Nat.blt m 105) (cond (Nat.blt m 104) (cond (Nat.beq m 103) (144) (0)) (cond (Nat.beq m 104) (144) (0))) (cond (Nat.blt m 106) (cond (Nat.beq m 105) (121) (0)) (cond (Nat.beq m 106) (121) (0))))) (cond (Nat.blt m 111) (cond (Nat.blt m 109) (cond (Nat.blt m 108) (cond (Nat.beq m 107) (113) (0)) (cond (Nat.beq m 108) (142) (0))) (cond (Nat.blt m 110) (cond (Nat.beq m 109) (66) (0)) (cond (Nat.beq m 110) (44) (0)))) (cond (Nat.blt m 113) (cond (Nat.blt m 112) (cond (Nat.beq m 111) (22) (0)) (cond (Nat.beq m 112) (0) (0))) (cond (Nat.blt m 114) (cond (Nat.beq m 113) (208) (0)) (cond (Nat.beq m 114) (21) (0)))))) (cond (Nat.blt m 123) (cond (Nat.blt m 119) (cond (Nat.blt m 117) (cond (Nat.blt m 116) (cond (Nat.beq m 115) (134) (0)) (cond (Nat.beq m 116) (158) (0))) (cond (Nat.blt m 118) (cond (Nat.beq m 117) (158) (0)) (cond (Nat.beq m 118) (158) (0)))) (cond (Nat.blt m 121) (cond (Nat.blt m 120) (cond (Nat.beq m 119) (158) (0)) (cond (Nat.beq m 120) (158) (0))) (cond (Nat.blt m 122) (cond (Nat.beq m 121) (158) (0)) (cond (Nat.beq m 122) (158) (0))))) (cond (Nat.blt m 127) (cond (Nat.blt m 125) (cond (Nat.blt m 124) (cond (Nat.beq m 123) (134) (0)) (cond (Nat.beq m 124) (145) (0))) (cond (Nat.blt m 126) (cond (Nat.beq m 125) (134) (0)) (cond (Nat.beq m 126) (134) (0)))) (cond (Nat.blt m 129) (cond (Nat.blt m 128) (cond (Nat.beq m 127) (134) (0)) (cond (Nat.beq m 128) (134) (0))) (cond (Nat.blt m 130) (cond (Nat.beq m 129) (21) (0)) (cond (Nat.blt m 131) (cond (Nat.beq m 130) (21) (0)) (cond (Nat.beq m 131) (21) (0)))))))))) (cond (Nat.blt m 198) (cond (Nat.blt m 165) (cond (Nat.blt m 148) (cond (Nat.blt m 140) (cond (Nat.blt m 136) (cond (Nat.blt m 134) (cond (Nat.blt m 133) (cond (Nat.beq m 132) (44) (0)) (cond (Nat.beq m 133) (45) (0))) (cond (Nat.blt m 135) (cond (Nat.beq m 134) (88) (0)) (cond (Nat.beq m 135) (71) (0)))) (cond (Nat.blt m 138) (cond (Nat.blt m 137) (cond (Nat.beq m 136) (142) (0)) (cond (Nat.beq m 137) (173) (0))) (cond (Nat.blt m 139) (cond (Nat.beq m 138) (170) (0)) (cond (Nat.beq m 139) (144) (0))))) (cond (Nat.blt m 144) (cond (Nat.blt m 142) (cond (Nat.blt m 141) (cond (Nat.beq m 140) (137) (0)) (cond (Nat.beq m 141) (169) (0))) (cond (Nat.blt m 143) (cond (Nat.beq m 142) (193) (0)) (cond (Nat.beq m 143) (0) (0)))) (cond (Nat.blt m 146) (cond (Nat.blt m 145) (cond (Nat.beq m 144) (167) (0)) (cond (Nat.beq m 145) (21) (0))) (cond (Nat.blt m 147) (cond (Nat.beq m 146) (71) (0)) (cond (Nat.beq m 147) (109) (0)))))) (cond (Nat.blt m 156) (cond (Nat.blt m 152) (cond (Nat.blt m 150) (cond (Nat.blt m 149) (cond (Nat.beq m 148) (88) (0)) (cond (Nat.beq m 149) (0) (0))) (cond (Nat.blt m 151) (cond (Nat.beq m 150) (0) (0)) (cond (Nat.beq m 151) (0) (0)))) (cond (Nat.blt m 154) (cond (Nat.blt m 153) (cond (Nat.beq m 152) (20) (0)) (cond (Nat.beq m 153) (0) (0))) (cond (Nat.blt m 155) (cond (Nat.beq m 154) (0) (0)) (cond (Nat.beq m 155) (22) (0))))) (cond (Nat.blt m 160) (cond (Nat.blt m 158) (cond (Nat.blt m 157) (cond (Nat.beq m 156) (0) (0)) (cond (Nat.beq m 157) (0) (0))) (cond (Nat.blt m 159) (cond (Nat.beq m 158) (0) (0)) (cond (Nat.beq m 159) (0) (0)))) (cond (Nat.blt m 162) (cond (Nat.blt m 161) (cond (Nat.beq m 160) (0) (0)) (cond (Nat.beq m 161) (20) (0))) (cond (Nat.blt m 163) (cond (Nat.beq m 162) (0) (0)) (cond (Nat.blt m 164) (cond (Nat.beq m 163) (25) (0)) (cond (Nat.beq m 164) (118) (0)))))))) (cond (Nat.blt m 181) (cond (Nat.blt m 173) (cond (Nat.blt m 169) (cond (Nat.blt m 167) (cond (Nat.blt m 166) (cond (Nat.beq m 165) (141) (0)) (cond (Nat.beq m 166) (25) (0))) (cond (Nat.blt m 168) (cond (Nat.beq m 167) (45) (0)) (cond (Nat.beq m 168) (163) (0)))) (cond (Nat.blt m 171) (cond (Nat.blt m 170) (cond (Nat.beq m 169) (0) (0)) (cond (Nat.beq m 170) (0) (0))) (cond (Nat.blt m 172) (cond (Nat.beq m 171) (68) (0)) (cond (Nat.beq m 172) (68) (0))))) (cond (Nat.blt m 177) (cond (Nat.blt m 175) (cond (Nat.blt m 174) (cond (Nat.beq m 173) (163) (0)) (cond (Nat.beq m 174) (68) (0))) (cond (Nat.blt m 176) (cond (Nat.beq m 175) (186) (0)) (cond (Nat.beq m 176) (207) (0)))) (cond (Nat.blt m 179) (cond (Nat.blt m 178) (cond (Nat.beq m 177) (0) (0)) (cond (Nat.beq m 178) (25) (0))) (cond (Nat.blt m 180) (cond (Nat.beq m 179) (46) (0)) (cond (Nat.beq m 180) (0) (0)))))) (cond (Nat.blt m 189) (cond (Nat.blt m 185) (cond (Nat.blt m 183) (cond (Nat.blt m 182) (cond (Nat.beq m 181) (0) (0)) (cond (Nat.beq m 182) (23) (0))) (cond (Nat.blt m 184) (cond (Nat.beq m 183) (23) (0)) (cond (Nat.beq m 184) (0) (0)))) (cond (Nat.blt m 187) (cond (Nat.blt m 186) (cond (Nat.beq m 185) (0) (0)) (cond (Nat.beq m 186) (0) (0))) (cond (Nat.blt m 188) (cond (Nat.beq m 187) (0) (0)) (cond (Nat.beq m 188) (20) (0))))) (cond (Nat.blt m 193) (cond (Nat.blt m 191) (cond (Nat.blt m 190) (cond (Nat.beq m 189) (0) (0)) (cond (Nat.beq m 190) (20) (0))) (cond (Nat.blt m 192) (cond (Nat.beq m 191) (43) (0)) (cond (Nat.beq m 192) (65) (0)))) (cond (Nat.blt m 195) (cond (Nat.blt m 194) (cond (Nat.beq m 193) (87) (0)) (cond (Nat.beq m 194) (87) (0))) (cond (Nat.blt m 196) (cond (Nat.beq m 195) (0) (0)) (cond (Nat.blt m 197) (cond (Nat.beq m 196) (21) (0)) (cond (Nat.beq m 197) (0) (0))))))))) (cond (Nat.blt m 231) (cond (Nat.blt m 214) (cond (Nat.blt m 206) (cond (Nat.blt m 202) (cond (Nat.blt m 200) (cond (Nat.blt m 199) (cond (Nat.beq m 198) (23) (0)) (cond (Nat.beq m 199) (48) (0))) (cond (Nat.blt m 201) (cond (Nat.beq m 200) (0) (0)) (cond (Nat.beq m 201) (70) (0)))) (cond (Nat.blt m 204) (cond (Nat.blt m 203) (cond (Nat.beq m 202) (21) (0)) (cond (Nat.beq m 203) (0) (0))) (cond (Nat.blt m 205) (cond (Nat.beq m 204) (111) (0)) (cond (Nat.beq m 205) (111) (0))))) (cond (Nat.blt m 210) (cond (Nat.blt m 208) (cond (Nat.blt m 207) (cond (Nat.beq m 206) (42) (0)) (cond (Nat.beq m 207) (46) (0))) (cond (Nat.blt m 209) (cond (Nat.beq m 208) (111) (0)) (cond (Nat.beq m 209) (133) (0)))) (cond (Nat.blt m 212) (cond (Nat.blt m 211) (cond (Nat.beq m 210) (92) (0)) (cond (Nat.beq m 211) (111) (0))) (cond (Nat.blt m 213) (cond (Nat.beq m 212) (111) (0)) (cond (Nat.beq m 213) (67) (0)))))) (cond (Nat.blt m 222) (cond (Nat.blt m 218) (cond (Nat.blt m 216) (cond (Nat.blt m 215) (cond (Nat.beq m 214) (155) (0)) (cond (Nat.beq m 215) (180) (0))) (cond (Nat.blt m 217) (cond (Nat.beq m 216) (204) (0)) (cond (Nat.beq m 217) (204) (0)))) (cond (Nat.blt m 220) (cond (Nat.blt m 219) (cond (Nat.beq m 218) (204) (0)) (cond (Nat.beq m 219) (204) (0))) (cond (Nat.blt m 221) (cond (Nat.beq m 220) (204) (0)) (cond (Nat.beq m 221) (204) (0))))) (cond (Nat.blt m 226) (cond (Nat.blt m 224) (cond (Nat.blt m 223) (cond (Nat.beq m 222) (204) (0)) (cond (Nat.beq m 223) (46) (0))) (cond (Nat.blt m 225) (cond (Nat.beq m 224) (180) (0)) (cond (Nat.beq m 225) (44) (0)))) (cond (Nat.blt m 228) (cond (Nat.blt m 227) (cond (Nat.beq m 226) (44) (0)) (cond (Nat.beq m 227) (44) (0))) (cond (Nat.blt m 229) (cond (Nat.beq m 228) (25) (0)) (cond (Nat.blt m 230) (cond (Nat.beq m 229) (25) (0)) (cond (Nat.beq m 230) (25) (0)))))))) (cond (Nat.blt m 247) (cond (Nat.blt m 239) (cond (Nat.blt m 235) (cond (Nat.blt m 233) (cond (Nat.blt m 232) (cond (Nat.beq m 231) (25) (0)) (cond (Nat.beq m 232) (65) (0))) (cond (Nat.blt m 234) (cond (Nat.beq m 233) (111) (0)) (cond (Nat.beq m 234) (70) (0)))) (cond (Nat.blt m 237) (cond (Nat.blt m 236) (cond (Nat.beq m 235) (23) (0)) (cond (Nat.beq m 236) (23) (0))) (cond (Nat.blt m 238) (cond (Nat.beq m 237) (180) (0)) (cond (Nat.beq m 238) (202) (0))))) (cond (Nat.blt m 243) (cond (Nat.blt m 241) (cond (Nat.blt m 240) (cond (Nat.beq m 239) (111) (0)) (cond (Nat.beq m 240) (111) (0))) (cond (Nat.blt m 242) (cond (Nat.beq m 241) (180) (0)) (cond (Nat.beq m 242) (204) (0)))) (cond (Nat.blt m 245) (cond (Nat.blt m 244) (cond (Nat.beq m 243) (204) (0)) (cond (Nat.beq m 244) (180) (0))) (cond (Nat.blt m 246) (cond (Nat.beq m 245) (70) (0)) (cond (Nat.beq m 246) (202) (0)))))) (cond (Nat.blt m 255) (cond (Nat.blt m 251) (cond (Nat.blt m 249) (cond (Nat.blt m 248) (cond (Nat.beq m 247) (111) (0)) (cond (Nat.beq m 248) (0) (0))) (cond (Nat.blt m 250) (cond (Nat.beq m 249) (21) (0)) (cond (Nat.beq m 250) (180) (0)))) (cond (Nat.blt m 253) (cond (Nat.blt m 252) (cond (Nat.beq m 251) (204) (0)) (cond (Nat.beq m 252) (0) (0))) (cond (Nat.blt m 254) (cond (Nat.beq m 253) (230) (0)) (cond (Nat.beq m 254) (0) (0))))) (cond (Nat.blt m 259) (cond (Nat.blt m 257) (cond (Nat.blt m 256) (cond (Nat.beq m 255) (0) (0)) (cond (Nat.beq m 256) (21) (0))) (cond (Nat.blt m 258) (cond (Nat.beq m 257) (180) (0)) (cond (Nat.beq m 258) (205) (0)))) (cond (Nat.blt m 261) (cond (Nat.blt m 260) (cond (Nat.beq m 259) (227) (0)) (cond (Nat.beq m 260) (25) (0))) (cond (Nat.blt m 262) (cond (Nat.beq m 261) (70) (0)) (cond (Nat.blt m 263) (cond (Nat.beq m 262) (111) (0)) (cond (Nat.beq m 263) (0) (0))))))))))
def band3 (a b c : Bool) : Bool := cond a (cond b c false) false
def strOk (a idx i : Nat) : Bool := cond (band3 (Nat.beq a 4) (Nat.beq idx 62) (Nat.beq i 0)) true (cond (band3 (Nat.beq a 4) (Nat.beq idx 101) (Nat.beq i 1)) true (cond (band3 (Nat.beq a 4) (Nat.beq idx 72) (Nat.beq i 2)) true (cond (band3 (Nat.beq a 4) (Nat.beq idx 110) (Nat.beq i 3)) true (cond (band3 (Nat.beq a 4) (Nat.beq idx 116) (Nat.beq i 4)) true (cond (band3 (Nat.beq a 4) (Nat.beq idx 77) (Nat.beq i 5)) true (cond (band3 (Nat.beq a 4) (Nat.beq idx 82) (Nat.beq i 6)) true (cond (band3 (Nat.beq a 4) (Nat.beq idx 87) (Nat.beq i 7)) true (cond (band3 (Nat.beq a 8) (Nat.beq idx 91) (Nat.beq i 8)) true (cond (band3 (Nat.beq a 8) (Nat.beq idx 93) (Nat.beq i 9)) true (cond (band3 (Nat.beq a 8) (Nat.beq idx 95) (Nat.beq i 10)) true (cond (band3 (Nat.beq a 8) (Nat.beq idx 97) (Nat.beq i 11)) true (cond (band3 (Nat.beq a 8) (Nat.beq idx 99) (Nat.beq i 12)) true (cond (band3 (Nat.beq a 8) (Nat.beq idx 101) (Nat.beq i 13)) true (cond (band3 (Nat.beq a 8) (Nat.beq idx 102) (Nat.beq i 14)) true (cond (band3 (Nat.beq a 8) (Nat.beq idx 104) (Nat.beq i 15)) true (false))))))))))))))))
def sTxt (i : Nat) : String := cond (Nat.blt i 8) (cond (Nat.blt i 4) (cond (Nat.blt i 2) (cond (Nat.blt i 1) (cond (Nat.beq i 0) ("key") ("")) (cond (Nat.beq i 1) ("under") (""))) (cond (Nat.blt i 3) (cond (Nat.beq i 2) ("image") ("")) (cond (Nat.beq i 3) ("revokes") ("")))) (cond (Nat.blt i 6) (cond (Nat.blt i 5) (cond (Nat.beq i 4) ("parts") ("")) (cond (Nat.beq i 5) ("limit") (""))) (cond (Nat.blt i 7) (cond (Nat.beq i 6) ("tries") ("")) (cond (Nat.beq i 7) ("watch") (""))))) (cond (Nat.blt i 12) (cond (Nat.blt i 10) (cond (Nat.blt i 9) (cond (Nat.beq i 8) ("key") ("")) (cond (Nat.beq i 9) ("image") (""))) (cond (Nat.blt i 11) (cond (Nat.beq i 10) ("limit") ("")) (cond (Nat.beq i 11) ("tries") ("")))) (cond (Nat.blt i 14) (cond (Nat.blt i 13) (cond (Nat.beq i 12) ("watch") ("")) (cond (Nat.beq i 13) ("under") (""))) (cond (Nat.blt i 15) (cond (Nat.beq i 14) ("revokes") ("")) (cond (Nat.beq i 15) ("parts") ("")))))
def lenS : List Nat := [3, 5, 5, 7, 5, 5, 5, 5, 3, 5, 5, 5, 5, 5, 7, 5]
def bytS : List (List Int32) := [[107, 101, 121], [117, 110, 100, 101, 114], [105, 109, 97, 103, 101], [114, 101, 118, 111, 107, 101, 115], [112, 97, 114, 116, 115], [108, 105, 109, 105, 116], [116, 114, 105, 101, 115], [119, 97, 116, 99, 104], [107, 101, 121], [105, 109, 97, 103, 101], [108, 105, 109, 105, 116], [116, 114, 105, 101, 115], [119, 97, 116, 99, 104], [117, 110, 100, 101, 114], [114, 101, 118, 111, 107, 101, 115], [112, 97, 114, 116, 115]]
def nestOk (a idx k : Nat) : Bool := cond (band3 (Nat.beq a 5) (Nat.beq idx 70) (Nat.beq k 149)) true (cond (band3 (Nat.beq a 2) (Nat.beq idx 119) (Nat.beq k 149)) true (false))
/-! EACH INSTRUCTION of the small machine is one of the bytecode, by program -/
def anyN (f : Nat → Bool) : Nat → Bool
  | 0 => false
  | n + 1 => cond (f n) true (anyN f n)
theorem anyN_ex {f : Nat → Bool} : ∀ {n : Nat}, anyN f n = true → ∃ j, j < n ∧ f j = true
  | 0, h => by simp [anyN] at h
  | n + 1, h => by
    unfold anyN at h
    cases hf : f n <;> simp only [hf, cond_true, cond_false] at h
    · obtain ⟨j, h1, h2⟩ := anyN_ex h
      exact ⟨j, by omega, h2⟩
    · exact ⟨n, by omega, hf⟩
def conOk (a idx : Nat) (v : Int) : Bool := anyN (fun j => cond (decide (kCon j = v)) (elem4 (10, a, idx, j) wcs) false) nCon
def conLOk (a idx : Nat) (v : Int) : Bool := anyN (fun j => cond (decide (kConL j = v)) (elem4 (11, a, idx, j) wcs) false) nConL
def band (a b : Bool) : Bool := cond a b false
theorem band_t {a b : Bool} (h : band a b = true) : a = true ∧ b = true := by
  cases a <;> cases b <;> first | exact ⟨rfl, rfl⟩ | exact absurd h (by decide)
def goOk (m pc : Nat) (off t : Int) : Bool := decide ((pc : Int) + off = (bpc m t.toNat : Int))
def offsOk (m pc : Nat) : List Int → List Int → Bool
  | [], [] => true
  | o :: os, t :: ts => band (goOk m pc o t) (offsOk m pc os ts)
  | _, _ => false
def in32 (x : Int) : Prop := -2147483648 ≤ x ∧ x < 2147483648
def in64 (x : Int) : Prop := -9223372036854775808 ≤ x ∧ x < 9223372036854775808
/-- room for a call of k from m -/
def roomOk (m k : Nat) : Bool := band (Nat.ble (mFr k + 1) (mFr m)) (Nat.ble (8 + (mMaxL k + 11) + mLo k) (mLo m))
def roomI (m f w : Nat) : Bool := band (Nat.ble f (mFr m)) (Nat.ble (8 + w) (mLo m))
/-- raw, at the byte pc of method m, does what ins does -/
def rz (m pc : Nat) (raw ins : Instr) : Bool := match ins with
  | .iload i => (match raw with | .iload k => Nat.beq k i | .iload_n k => Nat.beq k.val i | _ => false)
  | .aload i => (match raw with | .aload k => Nat.beq k i | .aload_n k => Nat.beq k.val i | _ => false)
  | .lload i => (match raw with | .lload k => Nat.beq k i | .lload_n k => Nat.beq k.val i | _ => false)
  | .istore i => cond (mLong m) false (band (Nat.blt i (mMaxL m)) (match raw with | .istore k => Nat.beq k i | .istore_n k => Nat.beq k.val i | _ => false))
  | .astore i => cond (mLong m) false (band (Nat.blt i (mMaxL m)) (match raw with | .astore k => Nat.beq k i | .astore_n k => Nat.beq k.val i | _ => false))
  | .fstore i => band (Nat.blt i (mMaxL m)) (match raw with | .istore k => Nat.beq k i | .istore_n k => Nat.beq k.val i | _ => false)
  | .dstore i => band (Nat.blt i (mMaxL m)) (match raw with | .astore k => Nat.beq k i | .astore_n k => Nat.beq k.val i | _ => false)
  | .lstore i => band (band (mLong m) (Nat.blt (i + 1) (mMaxL m))) (match raw with | .lstore k => Nat.beq k i | .lstore_n k => Nat.beq k.val i | _ => false)
  | .iconst v => band (decide (-2147483648 ≤ v ∧ v < 2147483648)) (match raw with
    | .iconst n => decide (n = v)
    | .bipush n => decide ((Int8.ofInt n).toInt32 = Int32.ofInt v)
    | .sipush n => decide ((Int16.ofInt n).toInt32 = Int32.ofInt v)
    | .ldc idx => conOk (mOwn m) idx v
    | .ldc_w idx => conOk (mOwn m) idx v
    | _ => false)
  | .jsr_w v => band (decide (-9223372036854775808 ≤ v ∧ v < 9223372036854775808)) (match raw with
    | .lconst n => decide ((n.val : Int) = v)
    | .ldc2_w idx => conLOk (mOwn m) idx v
    | _ => false)
  | .ldc i => (match raw with | .ldc idx => band (Nat.blt i 16) (strOk (mOwn m) idx i) | _ => false)
  | .iinc i c => (match raw with | .iinc k n => band (Nat.beq k i) (decide (n = c)) | _ => false)
  | .iadd => (match raw with | .iadd => true | _ => false)
  | .isub => (match raw with | .isub => true | _ => false)
  | .imul => (match raw with | .imul => true | _ => false)
  | .iand => (match raw with | .iand => true | _ => false)
  | .ior => (match raw with | .ior => true | _ => false)
  | .ixor => (match raw with | .ixor => true | _ => false)
  | .ishl => (match raw with | .ishl => true | _ => false)
  | .ishr => (match raw with | .ishr => true | _ => false)
  | .idiv => (match raw with | .idiv => true | _ => false)
  | .irem => (match raw with | .irem => true | _ => false)
  | .ladd => (match raw with | .ladd => true | _ => false)
  | .lmul => (match raw with | .lmul => true | _ => false)
  | .lor => (match raw with | .lor => true | _ => false)
  | .ldiv => (match raw with | .ldiv => true | _ => false)
  | .lrem => (match raw with | .lrem => true | _ => false)
  | .lshl => (match raw with | .lshl => true | _ => false)
  | .lshr => (match raw with | .lshr => true | _ => false)
  | .lushr => (match raw with | .lushr => true | _ => false)
  | .lcmp => (match raw with | .lcmp => true | _ => false)
  | .i2l => (match raw with | .i2l => true | _ => false)
  | .l2i => (match raw with | .l2i => true | _ => false)
  | .i2b => (match raw with | .i2b => true | _ => false)
  | .dup => (match raw with | .dup => true | _ => false)
  | .dup2 => (match raw with | .dup2 => true | _ => false)
  | .pop => (match raw with | .pop => true | _ => false)
  | .arraylength => (match raw with | .arraylength => true | _ => false)
  | .iaload => (match raw with | .iaload => true | _ => false)
  | .baload => (match raw with | .baload => true | _ => false)
  | .laload => (match raw with | .laload => true | _ => false)
  | .iastore => (match raw with | .iastore => true | _ => false)
  | .bastore => (match raw with | .bastore => true | _ => false)
  | .lastore => (match raw with | .lastore => true | _ => false)
  | .goto t => (match raw with | .goto off => goOk m pc off t | _ => false)
  | .if_icmp c t => (match raw with | .if_icmp c2 off => band (decide (c = c2)) (goOk m pc off t) | _ => false)
  | .ifCond c t => (match raw with | .ifCond c2 off => band (decide (c = c2)) (goOk m pc off t) | _ => false)
  | .ifnull t => (match raw with | .ifnull off => goOk m pc off t | _ => false)
  | .tableswitch d lo hi ts => (match raw with
    | .tableswitch d2 lo2 hi2 offs => band (decide (lo = lo2 ∧ hi = hi2 ∧ hi + 1 = lo + (ts.toList.length : Int) ∧ -2147483648 ≤ lo ∧ hi < 2147483647)) (band (goOk m pc d2 d) (offsOk m pc offs.toList ts.toList))
    | _ => false)
  | .getfield n => (match raw with | .getfield idx => band (elem4 (0, mOwn m, idx, n) wcs) (band (Nat.blt (n / 100) 9) (Nat.blt (n % 100) (nF (n / 100)))) | _ => false)
  | .putfield n => (match raw with | .putfield idx => band (elem4 (0, mOwn m, idx, n) wcs) (band (band (Nat.blt (n / 100) 9) (Nat.blt (n % 100) (nF (n / 100)))) (cond (cTb (n / 100) (n % 100)).2.2.2 (band (mInit m) (Nat.beq (mOwn m) (n / 100))) true)) | _ => false)
  | .new ci => (match raw with | .new idx => band (elem4 (6, mOwn m, idx, ci) wcs) (band (Nat.blt ci 9) (band (elem4 (7, ci, 0, 0) wcs) (elem4 (8, ci, 0, 0) wcs))) | _ => false)
  | .newarray t => (match raw with | .newarray t2 => band (decide (t = t2)) (elem4 (12, tagOf t, 0, 0) wcs) | _ => false)
  | .invokestatic k => (match raw with | .invokestatic idx => band (mSt k) (band (roomOk m k) (cond (elem4 (1, mOwn m, idx, k) wcs) (elem4 (4, k, 0, 0) wcs) (nestOk (mOwn m) idx k))) | _ => false)
  | .invokevirtual k => (match raw with | .invokevirtual idx => band (cond (mSt k) false true) (band (roomOk m k) (band (elem4 (1, mOwn m, idx, k) wcs) (band (elem4 (2, k, 0, 0) wcs) (band (cond (elem4 (13, k, 0, 0) wcs) true (elemN k pvs)) (band (Nat.beq (mOwn k) (mCls k)) (Nat.blt (mCls k) 9)))))) | _ => false)
  | .invokespecial k => (match raw with | .invokespecial idx => band (cond (mSt k) false true) (band (roomOk m k) (band (elem4 (1, mOwn m, idx, k) wcs) (band (elem4 (2, k, 0, 0) wcs) (band (mInit k) (Nat.beq (mRet k) 0))))) | _ => false)
  | .dadd => (match raw with | .invokestatic idx => band (roomI m 1 13) (elem4 (22, mOwn m, idx, 0) wcs) | _ => false)
  | .dsub => (match raw with | .invokestatic idx => band (roomI m 1 13) (elem4 (23, mOwn m, idx, 0) wcs) | _ => false)
  | .dmul => (match raw with | .invokestatic idx => band (roomI m 1 60) (elem4 (21, mOwn m, idx, 0) wcs) | _ => false)
  | .ddiv => (match raw with | .invokevirtual idx => band (roomI m 2 60) (elem4 (24, mOwn m, idx, 0) wcs) | _ => false)
  | .drem => (match raw with | .invokevirtual idx => band (roomI m 4 110) (elem4 (25, mOwn m, idx, 0) wcs) | _ => false)
  | .dneg => (match raw with | .invokespecial idx => band (roomI m 1 12) (elem4 (20, mOwn m, idx, 0) wcs) | _ => false)
  | .ireturn => (match raw with | .ireturn => true | _ => false)
  | .lreturn => (match raw with | .lreturn => true | _ => false)
  | .areturn => (match raw with | .areturn => true | _ => false)
  | .return_ => (match raw with | .return_ => true | _ => false)
  | _ => false
/-- how long an instruction is (0: a switch) -/
def lenOf : Instr → Nat
  | .iload _ => 2 | .aload _ => 2 | .lload _ => 2 | .istore _ => 2 | .astore _ => 2 | .lstore _ => 2
  | .bipush _ => 2 | .sipush _ => 3 | .ldc _ => 2 | .ldc_w _ => 3 | .ldc2_w _ => 3 | .iinc _ _ => 3
  | .goto _ => 3 | .if_icmp _ _ => 3 | .ifCond _ _ => 3 | .ifnull _ => 3 | .getfield _ => 3 | .putfield _ => 3
  | .new _ => 3 | .newarray _ => 2 | .invokestatic _ => 3 | .invokevirtual _ => 3 | .invokespecial _ => 3
  | .tableswitch _ _ _ _ => 0
  | _ => 1
def okI (m j : Nat) (ins : Instr) : Bool := match decode (mCode m) (bpc m j) with
  | .ok (raw, len) => band (band (Nat.beq (bpc m (j + 1)) (bpc m j + len)) (cond (Nat.beq (lenOf raw) 0) true (Nat.beq len (lenOf raw)))) (rz m (bpc m j) raw ins)
  | _ => false
def okL (m : Nat) : Nat → List Instr → Bool
  | _, [] => true
  | j, ins :: l => band (okI m j ins) (okL m (j + 1) l)
theorem okL_at (m : Nat) : ∀ (l : List Instr) (j k : Nat) (ins : Instr), okL m j l = true → nth l k = some ins → okI m (j + k) ins = true
  | [], j, k, ins, _, h => by simp [nth] at h
  | a :: l, j, 0, ins, ho, h => by
    simp only [nth, Option.some.injEq] at h
    subst h
    exact (band_t ho).1
  | a :: l, j, k + 1, ins, ho, h => by
    have := okL_at m l (j + 1) k ins (band_t ho).2 (by simpa [nth] using h)
    rw [show j + (k + 1) = j + 1 + k by omega]
    exact this
/-- what a call of k wants beside its link: its code is told, its class is initialised -/
def calOk (k : Nat) : Bool := band (elem4 (3, k, 0, 0) wcs) (band (elem4 (8, mOwn k, 0, 0) wcs) (Nat.blt (mOwn k) 60))
def retOk : Nat → Option FieldType → Bool
  | 0, none => true
  | 1, some .int => true
  | 2, some .boolean => true
  | 3, some .long => true
  | 4, some (.object _) => true
  | _, _ => false
theorem elemN_in : ∀ (l : List Nat) (a : Nat), elemN a l = true → a ∈ l
  | [], a, h => by simp [elemN] at h
  | b :: l, a, h => by
    unfold elemN at h
    cases e : Nat.beq a b <;> simp only [e, cond_true, cond_false] at h
    · exact List.mem_cons.mpr (Or.inr (elemN_in l a h))
    · exact List.mem_cons.mpr (Or.inl (Nat.eq_of_beq_eq_true e))
theorem nth_lt {α : Type} : ∀ (l : List α) (j : Nat) (a : α), nth l j = some a → j < l.length
  | [], j, a, h => by simp [nth] at h
  | b :: l, 0, a, h => by simp
  | b :: l, j + 1, a, h => by
    have := nth_lt l j a (by simpa [nth] using h)
    simpa using this
end
section
def allR (f : Nat → Bool) : Nat → Nat → Bool
  | _, 0 => true
  | a, n + 1 => band (f a) (allR f (a + 1) n)
theorem allR_at {f : Nat → Bool} : ∀ (n a m : Nat), allR f a n = true → a ≤ m → m < a + n → f m = true
  | 0, a, m, _, h1, h2 => by omega
  | n + 1, a, m, h, h1, h2 => by
    rcases Nat.eq_or_lt_of_le h1 with e | e
    · rw [← e]; exact (band_t h).1
    · exact allR_at n (a + 1) m (band_t h).2 e (by omega)
theorem okIns (m j : Nat) (ins : Instr) (hm : m < 264) (h : nth (cod m) j = some ins) : okI m j ins = true := sorry
theorem calAll : ∀ k, k < 264 → 0 < k → calOk k = true := by
  intro k h h0
  exact allR_at 263 1 k (by decide +kernel) (by omega) (by omega)
theorem mInit_nm (k : Nat) (h : k < 264) (hi : mInit k = true) : mNm k = "<init>" := by
  have e : allR (fun k => cond (mInit k) (elemN k [1, 11, 18, 64, 68, 85, 100, 109, 152]) true) 0 264 = true := by decide +kernel
  have e1 := allR_at 264 0 k e (by omega) (by omega)
  rw [hi] at e1
  have e2 : k ∈ [1, 11, 18, 64, 68, 85, 100, 109, 152] := elemN_in _ _ e1
  simp only [List.mem_cons, List.not_mem_nil, or_false] at e2
  rcases e2 with rfl | rfl | rfl | rfl | rfl | rfl | rfl | rfl | rfl <;> rfl
theorem mArg_ok : allR (fun k => decide ((parseMethodDescriptor (mDs k)).map (fun d => d.parameters.length) = some (cond (mSt k) (mArg k) (mArg k - 1)))) 0 264 = true := by decide +kernel
theorem mRet_ok : allR (fun k => retOk (mRet k) (mRetT k)) 0 264 = true := by decide +kernel
def tf0 : List FieldType := [.int, .int, .int, .int, .int, .array .int, .array .int, .array .int]
def tf1 : List FieldType := [.object "TwinSlots$Bundle", .object "TwinSlots$Machine", .object "TwinSlots$Machine", .array .int, .long, .int, .int, .int, .int, .int, .int, .int]
def tf2 : List FieldType := [.object "TwinSlots$Bundle", .array .int, .int, .int, .int, .int, .int, .int, .int, .boolean]
def tf3 : List FieldType := [.object "TwinSlots$Machine", .array .int, .int, .int]
def tf4 : List FieldType := [.array .int, .object "TwinSlots$Bundle", .int, .int, .int, .int, .int, .boolean, .boolean, .boolean, .int]
def tf5 : List FieldType := [.object "TwinSlots$Bundle", .object "TwinSlots$Machine", .object "TwinSlots$Machine", .array .long, .array .int, .array .int, .array .int, .array .int, .array .int, .int, .int, .int, .int]
def tf6 : List FieldType := [.object "TwinSlots$Machine", .object "TwinSlots$Machine", .object "TwinSlots$Machine"]
def tf7 : List FieldType := [.array .int, .int, .object "TwinSlots$Bundle", .object "TwinSlots$Bundle", .object "TwinSlots$Reader", .object "TwinSlots$Machine", .object "TwinSlots$Past", .object "TwinSlots$Trials", .object "TwinSlots$Lives", .object "TwinSlots$Routes", .int]
def tf8 : List FieldType := [.array .byte, .int, .int, .int, .int, .int, .int, .int, .int, .int, .array .int, .array .int, .array .int, .array .int, .array .int, .array .int, .array .int, .array .int, .array .int, .array .int, .array .int, .int, .int, .int, .boolean, .array .int, .array .int, .array .int, .array .int, .array .int, .array .int, .array .int, .array .int, .array .int, .int, .int, .int, .int, .int, .int, .int]
def nthT : List FieldType → Nat → FieldType
  | [], _ => .int
  | a :: _, 0 => a
  | _ :: l, n + 1 => nthT l n
def tyF (ci f : Nat) : FieldType := nthT (cond (Nat.blt ci 4) (cond (Nat.blt ci 2) (cond (Nat.blt ci 1) (cond (Nat.beq ci 0) (tf0) ([])) (cond (Nat.beq ci 1) (tf1) ([]))) (cond (Nat.blt ci 3) (cond (Nat.beq ci 2) (tf2) ([])) (cond (Nat.beq ci 3) (tf3) ([])))) (cond (Nat.blt ci 6) (cond (Nat.blt ci 5) (cond (Nat.beq ci 4) (tf4) ([])) (cond (Nat.beq ci 5) (tf5) ([]))) (cond (Nat.blt ci 7) (cond (Nat.beq ci 6) (tf6) ([])) (cond (Nat.blt ci 8) (cond (Nat.beq ci 7) (tf7) ([])) (cond (Nat.beq ci 8) (tf8) ([])))))) f
def tyOk : Nat → FieldType → Bool
  | 0, .int => true
  | 1, .boolean => true
  | 2, .long => true
  | 3, .object _ => true
  | 3, .array _ => true
  | _, _ => false
def fldOk (ci f : Nat) : Bool := band (decide (parseFieldDescriptor (cTb ci f).2.2.1 = some (tyF ci f))) (tyOk (fTy ci f) (tyF ci f))
theorem fldAll : allR (fun ci => allR (fun f => fldOk ci f) 0 (nF ci)) 0 9 = true := by decide +kernel
theorem nmAll : allR (fun ci => allR (fun a => allR (fun b => cond (Nat.beq a b) true (decide ((cTb ci a).2.1 ≠ (cTb ci b).2.1))) 0 (nF ci)) 0 (nF ci)) 0 9 = true := by decide +kernel
theorem layAll : allR (fun ci => allR (fun f => elem4 (9, ci, f, 0) wcs) 0 (nF ci)) 0 9 = true := by decide +kernel
theorem dclAll : allR (fun ci => allR (fun f => decide ((cTb ci f).1 = cN ci)) 0 (nF ci)) 0 9 = true := by decide +kernel
end
section
/-! NUMBERS: the small machine's whole numbers and the JVM's words -/
theorem bmod32 (x : Int) : Int.bmod x 4294967296 = w32 x := by
  unfold Int.bmod w32
  dsimp only
  split <;> omega
theorem bmod64 (x : Int) : Int.bmod x 18446744073709551616 = w64 x := by
  unfold Int.bmod w64
  dsimp only
  split <;> omega
theorem bmod8 (x : Int) : Int.bmod x 256 = w8 x := by
  unfold Int.bmod w8
  dsimp only
  split <;> omega
theorem w32_in (x : Int) : in32 (w32 x) := by unfold in32 w32; omega
theorem w64_in (x : Int) : in64 (w64 x) := by unfold in64 w64; omega
theorem w32_id {x : Int} (h : in32 x) : w32 x = x := by unfold in32 at h; unfold w32; omega
theorem w64_id {x : Int} (h : in64 x) : w64 x = x := by unfold in64 at h; unfold w64; omega
theorem in32_64 {x : Int} (h : in32 x) : in64 x := by unfold in32 at h; unfold in64; omega
theorem toInt32_of (x : Int) : (Int32.ofInt x).toInt = w32 x := by rw [Int32.toInt_ofInt]; exact bmod32 x
theorem toInt64_of (x : Int) : (Int64.ofInt x).toInt = w64 x := by rw [Int64.toInt_ofInt]; exact bmod64 x
theorem toInt32_in {x : Int} (h : in32 x) : (Int32.ofInt x).toInt = x := (toInt32_of x).trans (w32_id h)
theorem toInt64_in {x : Int} (h : in64 x) : (Int64.ofInt x).toInt = x := (toInt64_of x).trans (w64_id h)
theorem of32 (x : Int32) : Int32.ofInt x.toInt = x := Int32.ofInt_toInt x
theorem of64 (x : Int64) : Int64.ofInt x.toInt = x := Int64.ofInt_toInt x
theorem in32_of (x : Int32) : in32 x.toInt := ⟨Int32.le_toInt x, Int32.toInt_lt x⟩
theorem in64_of (x : Int64) : in64 x.toInt := ⟨Int64.le_toInt x, Int64.toInt_lt x⟩
theorem w32_of (x : Int) : Int32.ofInt (w32 x) = Int32.ofInt x := by rw [← toInt32_of, of32]
theorem w64_of (x : Int) : Int64.ofInt (w64 x) = Int64.ofInt x := by rw [← toInt64_of, of64]
theorem lt32 {a b : Int} (ha : in32 a) (hb : in32 b) : Int32.ofInt a < Int32.ofInt b ↔ a < b := by
  rw [Int32.lt_iff_toInt_lt, toInt32_in ha, toInt32_in hb]
theorem le32 {a b : Int} (ha : in32 a) (hb : in32 b) : Int32.ofInt a ≤ Int32.ofInt b ↔ a ≤ b := by
  rw [Int32.le_iff_toInt_le, toInt32_in ha, toInt32_in hb]
theorem eq32 {a b : Int} (ha : in32 a) (hb : in32 b) : Int32.ofInt a = Int32.ofInt b ↔ a = b := by
  rw [← Int32.toInt_inj, toInt32_in ha, toInt32_in hb]
theorem eq64 {a b : Int} (ha : in64 a) (hb : in64 b) : Int64.ofInt a = Int64.ofInt b ↔ a = b := by
  rw [← Int64.toInt_inj, toInt64_in ha, toInt64_in hb]
theorem lt64 {a b : Int} (ha : in64 a) (hb : in64 b) : Int64.ofInt a < Int64.ofInt b ↔ a < b := by
  rw [Int64.lt_iff_toInt_lt, toInt64_in ha, toInt64_in hb]
theorem in32_0 : in32 0 := by unfold in32; omega
theorem in64_0 : in64 0 := by unfold in64; omega
theorem of32_0 : Int32.ofInt 0 = 0 := rfl
theorem add32 (a b : Int) : Int32.ofInt (w32 (a + b)) = Int32.ofInt a + Int32.ofInt b := by rw [w32_of, Int32.ofInt_add]
theorem sub32 (a b : Int) : Int32.ofInt (w32 (a - b)) = Int32.ofInt a - Int32.ofInt b := by rw [w32_of, Int32.ofInt_sub]
theorem mul32 (a b : Int) : Int32.ofInt (w32 (a * b)) = Int32.ofInt a * Int32.ofInt b := by rw [w32_of, Int32.ofInt_mul]
theorem add64 (a b : Int) : Int64.ofInt (w64 (a + b)) = Int64.ofInt a + Int64.ofInt b := by rw [w64_of, Int64.ofInt_add]
theorem mul64 (a b : Int) : Int64.ofInt (w64 (a * b)) = Int64.ofInt a * Int64.ofInt b := by rw [w64_of, Int64.ofInt_mul]
theorem div32 {a b : Int} (ha : in32 a) (hb : in32 b) : Int32.ofInt (w32 (a.tdiv b)) = Int32.ofInt a / Int32.ofInt b := by
  rw [← Int32.toInt_inj, toInt32_of, Int32.toInt_div, toInt32_in ha, toInt32_in hb]
  show w32 (w32 _) = Int.bmod _ 4294967296
  rw [bmod32, w32_id (w32_in _)]
theorem div64 {a b : Int} (ha : in64 a) (hb : in64 b) : Int64.ofInt (w64 (a.tdiv b)) = Int64.ofInt a / Int64.ofInt b := by
  rw [← Int64.toInt_inj, toInt64_of, Int64.toInt_div, toInt64_in ha, toInt64_in hb]
  show w64 (w64 _) = Int.bmod _ 18446744073709551616
  rw [bmod64, w64_id (w64_in _)]
theorem rem32 {a b : Int} (ha : in32 a) (hb : in32 b) : Int32.ofInt (a.tmod b) = Int32.ofInt a - Int32.ofInt a / Int32.ofInt b * Int32.ofInt b := by
  rw [← div32 ha hb, ← mul32, ← sub32]
  rw [← Int32.toInt_inj, toInt32_of, toInt32_of]
  have e : a.tmod b = a - a.tdiv b * b := by rw [Int.tmod_def, Int.mul_comm]
  rw [e]
  have k : ∀ x y : Int, w32 (x - y * b) = w32 (w32 (x - w32 (w32 y * b))) := by
    intro x y
    have k1 : Int32.ofInt (x - y * b) = Int32.ofInt (x - w32 (w32 y * b)) := by
      rw [Int32.ofInt_sub, Int32.ofInt_sub, w32_of, Int32.ofInt_mul, Int32.ofInt_mul, w32_of]
    rw [← toInt32_of, k1, toInt32_of, w32_id (w32_in _)]
  exact k a (a.tdiv b)
theorem rem64 {a b : Int} (ha : in64 a) (hb : in64 b) : Int64.ofInt (a.tmod b) = Int64.ofInt a - Int64.ofInt a / Int64.ofInt b * Int64.ofInt b := by
  rw [← div64 ha hb, ← mul64]
  have e : a.tmod b = a - a.tdiv b * b := by rw [Int.tmod_def, Int.mul_comm]
  rw [e, Int64.ofInt_sub, Int64.ofInt_mul, w64_of, Int64.ofInt_mul, w64_of]
theorem tmod_in32 {a b : Int} (ha : in32 a) : in32 (a.tmod b) := by
  have h1 : (a.tmod b).natAbs ≤ a.natAbs := by rw [Int.natAbs_tmod]; exact Nat.mod_le _ _
  rcases Int.le_total 0 a with h | h
  · have := Int.tmod_nonneg b h
    unfold in32 at *
    omega
  · have h2 := Int.tmod_nonneg b (show 0 ≤ -a by omega)
    rw [Int.neg_tmod] at h2
    unfold in32 at *
    omega
theorem tmod_in64 {a b : Int} (ha : in64 a) : in64 (a.tmod b) := by
  have h1 : (a.tmod b).natAbs ≤ a.natAbs := by rw [Int.natAbs_tmod]; exact Nat.mod_le _ _
  rcases Int.le_total 0 a with h | h
  · have := Int.tmod_nonneg b h
    unfold in64 at *
    omega
  · have h2 := Int.tmod_nonneg b (show 0 ≤ -a by omega)
    rw [Int.neg_tmod] at h2
    unfold in64 at *
    omega
theorem i2l_of {a : Int} (h : in32 a) : (Int32.ofInt a).toInt64 = Int64.ofInt a := by
  rw [← Int64.toInt_inj, Int32.toInt_toInt64, toInt32_in h, toInt64_in (in32_64 h)]
theorem l2i_of {a : Int} (h : in64 a) : (Int64.ofInt a).toInt32 = Int32.ofInt (w32 a) := by
  rw [← Int32.toInt_inj, Int64.toInt_toInt32, toInt64_in h, toInt32_in (w32_in _)]
  exact bmod32 a
theorem w8_in (x : Int) : in32 (w8 x) := by unfold in32 w8; omega
theorem i2b_of {a : Int} (h : in32 a) : (Int32.ofInt a).toInt8.toInt32 = Int32.ofInt (w8 a) := by
  rw [← Int32.toInt_inj, Int8.toInt_toInt32, Int32.toInt_toInt8, toInt32_in h, toInt32_in (w8_in _)]
  exact bmod8 a
theorem min_of {a b : Int} (ha : in32 a) (hb : in32 b) : (if Int32.ofInt b < Int32.ofInt a then Int32.ofInt b else Int32.ofInt a) = Int32.ofInt (min a b) := by
  by_cases h : b < a
  · rw [if_pos ((lt32 hb ha).mpr h), Int.min_eq_right (by omega)]
  · rw [if_neg (fun z => h ((lt32 hb ha).mp z)), Int.min_eq_left (by omega)]
theorem clampI {j : Int} (h0 : 0 ≤ j) (h : in32 j) : (Int32.ofInt j).toNatClampNeg = j.toNat := by
  show (Int32.ofInt j).toInt.toNat = j.toNat
  rw [toInt32_in h]
theorem vpinI {j : Int} {n : Nat} (h0 : ¬ j < 0) (hn : j < (n : Int)) (h : in32 j) : vp_in (Int32.ofInt j) n := by
  rintro (z | z)
  · rw [Int32.lt_iff_toInt_lt, toInt32_in h, Int32.toInt_zero] at z; exact h0 z
  · rw [clampI (by omega) h] at z; omega
theorem and_in (a b : Int) : in32 (bAnd a b) := in32_of _
end
section
/-! THE WORLD of the small machine's cells in the JVM's heap -/
abbrev GT : Type := va_G × (Nat → ClassId) × (Nat → Nat)
abbrev AdT : Type := Nat → Nat → Nat
def toV (ad : AdT) : MV → Value
  | .inl x => .int (Int32.ofInt x)
  | .inr (.inl x) => .long (Int64.ofInt x)
  | .inr (.inr (.inl q)) => .ref (ad q.1 q.2)
  | .inr (.inr (.inr _)) => .null
def fval (ad : AdT) (S : MS) (k i f : Nat) : Value := match fTy (kCls k) f with
  | 2 => .long (Int64.ofInt (S.2.2 k i f))
  | 3 => cond (elem3 (k, i, f) S.2.1) .null (.ref (ad (fRef k i f).1 (fRef k i f).2))
  | _ => .int (Int32.ofInt (S.2.2 k i f))
def ent (G : GT) (ad : AdT) (S : MS) (q : Nat × Nat) : va_E := match kTag q.1 with
  | 0 => .inr (kCls q.1, (List.range (nF (kCls q.1))).map (fval ad S q.1 q.2))
  | 3 => .inl (G.2.1 3, kLen q.1, .inr (.inl (fun j => Int64.ofInt (S.2.2 q.1 q.2 j))))
  | t => .inl (G.2.1 t, kLen q.1, .inl (fun j => Int32.ofInt (S.2.2 q.1 q.2 j)))
def wl (G : GT) (ad : AdT) (S : MS) : va_W := (ords.take S.1).map fun q => (ad q.1 q.2, ent G ad S q)
abbrev tys0 (G : GT) : List (ClassId × FieldType) := [(G.2.1 1, .int), (G.2.1 2, .byte), (G.2.1 3, .long)]
/-- a cell that is made -/
def vld (n : Nat) (q : Nat × Nat) : Prop := ∃ a, a < n ∧ nth ords a = some q
def okV (n : Nat) : MV → Prop
  | .inl x => in32 x
  | .inr (.inl x) => in64 x
  | .inr (.inr (.inl q)) => vld n q ∨ q = (999, 0) ∨ (q.1 = 1000 ∧ q.2 < 16)
  | .inr (.inr (.inr _)) => True
def isL (k j : Nat) : Bool := cond (Nat.beq (kTag k) 3) true (cond (Nat.beq (kTag k) 0) (Nat.beq (fTy (kCls k) j) 2) false)
def okS (σ : Sto) : Prop := ∀ k i j, in64 (σ k i j) ∧ (isL k j = false → in32 (σ k i j))
def RK (S : MS) : Prop := ∀ q, vld S.1 q → kTag q.1 = 0 → ∀ f, f < nF (kCls q.1) → fTy (kCls q.1) f = 3 → elem3 (q.1, q.2, f) S.2.1 = false → vld S.1 (fRef q.1 q.2 f)
def szOf (q : Nat × Nat) : Nat := cond (Nat.beq (kTag q.1) 0) (nF (kCls q.1)) (kLen q.1)
def slN (n : Nat) : Nat := ((ords.take n).map szOf).sum
theorem nth_get {α : Type} : ∀ (l : List α) (i : Nat), nth l i = l[i]?
  | [], i => by simp [nth]
  | a :: l, 0 => by simp [nth]
  | a :: l, i + 1 => by simp [nth, nth_get l i]
theorem setn_set {α : Type} : ∀ (l : List α) (i : Nat) (v : α), setn l i v = l.set i v
  | [], i, v => by simp [setn]
  | a :: l, 0, v => by simp [setn]
  | a :: l, i + 1, v => by simp [setn, setn_set l i v]
theorem slN_succ {n : Nat} {q : Nat × Nat} (h : nth ords n = some q) : slN (n + 1) = slN n + szOf q := by
  rw [nth_get] at h
  unfold slN
  rw [List.take_add_one, h]
  simp
theorem ords_inj {a b : Nat} {q : Nat × Nat} (ha : nth ords a = some q) (hb : nth ords b = some q) : a = b := by
  have e : allR (fun a => allR (fun b => cond (Nat.beq a b) true (decide (nth ords a ≠ nth ords b))) 0 55) 0 55 = true := by decide +kernel
  have h1 : a < 55 := nth_lt _ _ _ ha
  have h2 : b < 55 := nth_lt _ _ _ hb
  have e1 := allR_at 55 0 b (allR_at 55 0 a e (by omega) (by omega)) (by omega) (by omega)
  rcases z : Nat.beq a b with _ | _
  · rw [z] at e1
    exact absurd (ha.trans hb.symm) (of_decide_eq_true e1)
  · exact Nat.eq_of_beq_eq_true z
/-- of a cell: its kind is one of the tables' -/
theorem ords_kd {a : Nat} {q : Nat × Nat} (ha : nth ords a = some q) : q.1 < 999 ∧ (kTag q.1 = 0 → kCls q.1 < 9 ∧ cls0[kCls q.1]? = some (cN (kCls q.1), cTb (kCls q.1), nF (kCls q.1))) ∧ kTag q.1 < 4 ∧ kLenZ q.1 = (kLen q.1 : Int) ∧ kLen q.1 < 100000 ∧ (kCls q.1 < 9 → kTag q.1 = 0) := by
  have e : allR (fun a => match nth ords a with
    | some q => band (Nat.blt q.1 999) (band (Nat.blt (kTag q.1) 4) (band (decide (kLenZ q.1 = (kLen q.1 : Int))) (band (Nat.blt (kLen q.1) 100000) (cond (Nat.beq (kTag q.1) 0) (Nat.blt (kCls q.1) 9) (Nat.ble 9 (kCls q.1))))))
    | none => true) 0 55 = true := by decide +kernel
  have h1 : a < 55 := nth_lt _ _ _ ha
  have e1 := allR_at 55 0 a e (by omega) (by omega)
  rw [ha] at e1
  obtain ⟨b1, b2⟩ := band_t e1
  obtain ⟨b2, b3⟩ := band_t b2
  obtain ⟨b3, b4⟩ := band_t b3
  obtain ⟨b4, b5⟩ := band_t b4
  have c1 : q.1 + 1 ≤ 999 := Nat.le_of_ble_eq_true b1
  have c2 : kTag q.1 + 1 ≤ 4 := Nat.le_of_ble_eq_true b2
  have c4 : kLen q.1 + 1 ≤ 100000 := Nat.le_of_ble_eq_true b4
  refine ⟨by omega, fun h0 => ?_, by omega, of_decide_eq_true b3, by omega, fun h9 => ?_⟩
  case refine_2 =>
    rcases z : Nat.beq (kTag q.1) 0 with _ | _
    · rw [z] at b5
      have := Nat.le_of_ble_eq_true b5
      omega
    · exact Nat.eq_of_beq_eq_true z
  rw [h0] at b5
  have c3 : kCls q.1 + 1 ≤ 9 := Nat.le_of_ble_eq_true b5
  refine ⟨by omega, ?_⟩
  generalize kCls q.1 = c at c3
  rcases (by omega : c = 0 ∨ c = 1 ∨ c = 2 ∨ c = 3 ∨ c = 4 ∨ c = 5 ∨ c = 6 ∨ c = 7 ∨ c = 8) with rfl | rfl | rfl | rfl | rfl | rfl | rfl | rfl | rfl <;> rfl
theorem wl_at {G : GT} {ad : AdT} {S : MS} {a : Nat} {q : Nat × Nat} (ha : a < S.1) (h : nth ords a = some q) : (wl G ad S)[a]? = some (ad q.1 q.2, ent G ad S q) := by
  rw [nth_get] at h
  unfold wl
  rw [List.getElem?_map, List.getElem?_take, if_pos ha, h]
  rfl
theorem wl_to {G : GT} {ad : AdT} {S : MS} {a : Nat} {x : Nat × va_E} (h : (wl G ad S)[a]? = some x) : ∃ q, a < S.1 ∧ nth ords a = some q ∧ x = (ad q.1 q.2, ent G ad S q) := by
  unfold wl at h
  rw [List.getElem?_map, List.getElem?_take] at h
  split at h
  · rename_i ha
    rcases e : ords[a]? with _ | q
    · rw [e] at h; cases h
    · rw [e] at h
      cases h
      exact ⟨q, ha, by rw [nth_get]; exact e, rfl⟩
  · cases h
/-- one cell is written -/
theorem wl_set {G : GT} {ad : AdT} {S S' : MS} {a : Nat} {q : Nat × Nat} (ha : a < S.1) (h : nth ords a = some q) (hn : S'.1 = S.1) (ho : ∀ q', q' ≠ q → ent G ad S' q' = ent G ad S q') :
    (wl G ad S).set a (ad q.1 q.2, ent G ad S' q) = wl G ad S' := by
  apply List.ext_getElem?
  intro j
  rw [List.getElem?_set]
  by_cases hj : a = j
  · subst hj
    rw [if_pos rfl, if_pos (List.getElem?_eq_some_iff.mp (wl_at (G := G) (ad := ad) ha h)).1, wl_at (S := S') (by omega) h]
  · rw [if_neg hj]
    rcases e : (wl G ad S)[j]? with _ | x
    · rcases e2 : (wl G ad S')[j]? with _ | y
      · rfl
      · obtain ⟨q2, h1, h2, h3⟩ := wl_to e2
        rw [wl_at (S := S) (by omega) h2] at e
        cases e
    · obtain ⟨q2, h1, h2, rfl⟩ := wl_to e
      rw [wl_at (S := S') (by omega) h2, ho q2 (fun z => hj (ords_inj (z ▸ h) h2))]
theorem ent_sup {G : GT} {ad : AdT} {n : Nat} {un : List (Nat × Nat × Nat)} {σ : Sto} {k i j : Nat} {v : Int} {q : Nat × Nat} (h : q ≠ (k, i)) : ent G ad (n, un, sup σ k i j v) q = ent G ad (n, un, σ) q := by
  have e : ∀ j', sup σ k i j v q.1 q.2 j' = σ q.1 q.2 j' := fun j' => by
    unfold sup
    rw [if_neg]
    rintro ⟨h1, h2, -⟩
    exact h (Prod.ext h1 h2)
  unfold ent
  split
  · congr 2
    apply List.map_congr_left
    intro f _
    unfold fval
    simp only [e]
  · simp only [e]
  · simp only [e]
end
section
/-! THE WALK: what holds at a place of a method, and one row a kind of instruction -/
theorem ent_un {G : GT} {ad : AdT} {n n' : Nat} {un un' : List (Nat × Nat × Nat)} {σ σ' : Sto} {q : Nat × Nat} (hs : ∀ j, σ' q.1 q.2 j = σ q.1 q.2 j) (hu : ∀ f, elem3 (q.1, q.2, f) un' = elem3 (q.1, q.2, f) un) : ent G ad (n', un', σ') q = ent G ad (n, un, σ) q := by
  unfold ent
  split
  · congr 2
    apply List.map_congr_left
    intro f _
    unfold fval
    simp only [hs, hu]
  · simp only [hs]
  · simp only [hs]
def Locs (ad : AdT) (L : List MV) (ls : Array Slot) : Prop := ls.size = L.length ∧ lv_wf ls ∧ ∀ i v, nth L i = some v → v ≠ vX → ls[i]? = some (.val (toV ad v))
/-- the texts' own cells: given by the Statement, outside what is written -/
def TX1 (len : Nat) (byt : List Int32) (a v : Nat) (A : Nat → Prop) (U : State) (H : Heap) : Prop := va_O "java/lang/String" a A U H ∧ va_OF "java/lang/String" "coder" "B" (.int 0) a A U H ∧ va_OF "java/lang/String" "value" "[B" (.ref v) a A U H ∧ va_T .byte v len (fun j => .int (byt.getD j 0)) A U H
def TXc (G : GT) (A : Nat → Prop) (U : State) (H : Heap) : Prop := (∃ adV : Nat → Nat, ∀ i, i < 16 → TX1 (lenS.getD i 0) (bytS.getD i []) (G.2.2 i) (adV i) A U H) ∧ va_Z "java/lang/String" "COMPACT_STRINGS" "Z" (.int 1) A U H ∧ va_Zq "jdk/internal/util/Preconditions" "SIOOBE_FORMATTER" "Ljava/util/function/BiFunction;" A U H
theorem TXc.moved {G : GT} {A : Nat → Prop} {u U : State} {H : Heap} (hvm : u.vm.Alike U.vm) (h : TXc G A u H) : TXc G A U H := by
  obtain ⟨⟨adV, h1⟩, h2, h3⟩ := h
  exact ⟨⟨adV, fun i hi => ⟨va_O.moved hvm (h1 i hi).1, va_OF.moved hvm (h1 i hi).2.1, va_OF.moved hvm (h1 i hi).2.2.1, va_T.moved hvm (h1 i hi).2.2.2⟩⟩, va_Z.moved hvm h2, va_Zq.moved hvm h3⟩
theorem TXc.kept {G : GT} {A : Nat → Prop} {U : State} {H H1 : Heap} (h : TXc G A U H) (hq : ∀ a : Nat, a < H.size → ¬ A a → H1[a]? = H[a]?) : TXc G A U H1 := by
  obtain ⟨⟨adV, h1⟩, h2, h3⟩ := h
  exact ⟨⟨adV, fun i hi => ⟨(h1 i hi).1.kept hq, (h1 i hi).2.1.kept hq, (h1 i hi).2.2.1.kept hq, (h1 i hi).2.2.2.kept hq⟩⟩, h2.kept hq, h3.kept hq⟩
theorem TXc.narrow {G : GT} {A B : Nat → Prop} {U : State} {H : Heap} (h : TXc G A U H) (hAB : ∀ q, B q → A q) : TXc G B U H := by
  obtain ⟨⟨adV, h1⟩, h2, h3⟩ := h
  exact ⟨⟨adV, fun i hi => ⟨(h1 i hi).1.narrow hAB, (h1 i hi).2.1.narrow hAB, (h1 i hi).2.2.1.narrow hAB, (h1 i hi).2.2.2.narrow hAB⟩⟩, h2.narrow hAB, h3.narrow hAB⟩
/-- what the tables say, wherever the run stands -/
def GS (G : GT) (U : State) : Prop := va_K G.1 cls0 (tys0 G) U ∧ (∀ a i k, nestOk a i k = true → va_Nw (.methodLinkNest (cN a) i (mN k) "TwinSlots") U) ∧ (∀ a i k, strOk a i k = true → vk_R (cN a) i (sTxt k) (G.2.2 k) U)
section WALK
variable {N m : Nat} {G : GT} {b : Nat} {xs : Nat → Int32} {out : Out}
variable {p : Program} {l : Launch} {e : Env} {R : Room} {s : State} {mid : MethodId} {args : Array Value} {below : List Frame} {meth : Method} {c : Code} {A : Nat → Prop} {H0 : Heap} {Q : State → Prop}
def Cx (N m : Nat) (G : GT) (b : Nat) (xs : Nat → Int32) (p : Program) (R : Room) (s : State) (mid : MethodId) (args : Array Value) (meth : Method) (c : Code) (A : Nat → Prop) (H0 : Heap) : Prop :=
  m < 264 ∧ p.tables.exec = Jvm.exec ∧ c.code = mCode m ∧ c.maxLocals = mMaxL m ∧ s.vm.findClass (cN (mOwn m)) = some mid.cls ∧ (∀ w ∈ gw, w.before args s = true) ∧ (mInit m = true → meth.name = "<init>") ∧ mFr m ≤ R.frames ∧ mLo m ≤ R.locals ∧ GS G s ∧
  (∀ q, H0.size ≤ q → A q) ∧ va_X b N xs s H0 ∧ b < H0.size ∧ ¬ A b ∧ TXc G A s H0 ∧ N < 2147483648
/-- the world as it stands -/
def Wd (N : Nat) (G : GT) (b : Nat) (xs : Nat → Int32) (A : Nat → Prop) (H0 : Heap) (S : MS) (ad : AdT) (H : Heap) (locs : List Loc) : Prop :=
  va_P G.1 cls0 (wl G ad S) H ∧ va_D A (wl G ad S) ∧ va_S A H0 H locs ∧ ad 999 0 = b ∧ (∀ i, i < 16 → ad 1000 i = G.2.2 i) ∧ okS S.2.2 ∧ RK S ∧ (∀ j, j < N → Int32.ofInt (S.2.2 999 0 j) = xs j)
def retV (ad : AdT) : Option MV → List Value
  | none => []
  | some v => [toV ad v]
/-- the place is an end, of the kind that the answer has -/
def EndAt (m pc : Nat) : Option MV → Prop
  | none => decode (mCode m) (bpc m pc) = .ok (.return_, 1) ∧ mRet m = 0
  | some (.inl x) => decode (mCode m) (bpc m pc) = .ok (.ireturn, 1) ∧ (mRet m = 1 ∨ (mRet m = 2 ∧ (x = 0 ∨ x = 1))) ∧ in32 x
  | some (.inr (.inl x)) => decode (mCode m) (bpc m pc) = .ok (.lreturn, 1) ∧ mRet m = 3 ∧ in64 x
  | some (.inr (.inr (.inl _))) => decode (mCode m) (bpc m pc) = .ok (.areturn, 1) ∧ mRet m = 4
  | some (.inr (.inr (.inr _))) => False
/-- what is to be shown at the end -/
def KK (N m : Nat) (G : GT) (b : Nat) (xs : Nat → Int32) (out : Out) (p : Program) (l : Launch) (e : Env) (R : Room) (s : State) (mid : MethodId) (args : Array Value) (below : List Frame) (meth : Method) (c : Code) (A : Nat → Prop) (H0 : Heap) (Q : State → Prop) (cells slots n : Nat) (ad : AdT) : Prop :=
  ∀ (ad1 : AdT) (H1 : Heap) (locs1 : List Loc) (cells1 slots1 pc1 : Nat) (ls1 : Array Slot), (∀ q, vld n q → ad1 q.1 q.2 = ad q.1 q.2) → Wd N G b xs A H0 out.2 ad1 H1 locs1 → cells1 + n = cells + out.2.1 → slots1 + slN n = slots + slN out.2.1 → EndAt m pc1 out.1 → (∀ v, out.1 = some v → okV out.2.1 v) →
    W p l e R s mid args below meth c H1 locs1 cells1 slots1 Q (F0 mid (bpc m pc1) ls1 (retV ad1 out.1))
def Here (N m : Nat) (G : GT) (b : Nat) (xs : Nat → Int32) (out : Out) (p : Program) (l : Launch) (e : Env) (R : Room) (s : State) (mid : MethodId) (args : Array Value) (below : List Frame) (meth : Method) (c : Code) (A : Nat → Prop) (H0 : Heap) (Q : State → Prop) (L st : List MV) (S : MS) (ad : AdT) (H : Heap) (locs : List Loc) (cells slots : Nat) (ls : Array Slot) : Prop :=
  Wd N G b xs A H0 S ad H locs ∧ (∀ v ∈ L, okV S.1 v) ∧ (∀ v ∈ st, okV S.1 v) ∧ (mLong m = false → ∀ v ∈ L, isJ v = false) ∧ Locs ad L ls ∧ L.length = mMaxL m ∧ cells + out.2.1 ≤ R.cells + S.1 ∧ slots + slN out.2.1 ≤ R.slots + slN S.1 ∧ KK N m G b xs out p l e R s mid args below meth c A H0 Q cells slots S.1 ad
/-- going on from a place is settled -/
def IH (N F m : Nat) (G : GT) (b : Nat) (xs : Nat → Int32) (out : Out) (p : Program) (l : Launch) (e : Env) (R : Room) (s : State) (mid : MethodId) (args : Array Value) (below : List Frame) (meth : Method) (c : Code) (A : Nat → Prop) (H0 : Heap) (Q : State → Prop) : Prop :=
  ∀ (pc : Nat) (L st : List MV) (S : MS) (ad : AdT) (H : Heap) (locs : List Loc) (cells slots : Nat) (ls : Array Slot), exec N F m pc L st S = some out → Here N m G b xs out p l e R s mid args below meth c A H0 Q L st S ad H locs cells slots ls → W p l e R s mid args below meth c H locs cells slots Q (F0 mid (bpc m pc) ls (st.map (toV ad)))
variable {F pc : Nat} {L st : List MV} {S : MS} {ad : AdT} {H : Heap} {locs : List Loc} {cells slots : Nat} {ls : Array Slot}
theorem nth_mem {α : Type} : ∀ (l : List α) (i : Nat) (a : α), nth l i = some a → a ∈ l
  | [], i, a, h => by simp [nth] at h
  | b :: l, 0, a, h => by simp only [nth, Option.some.injEq] at h; rw [h]; exact List.mem_cons_self
  | b :: l, i + 1, a, h => List.mem_cons_of_mem _ (nth_mem l i a (by simpa [nth] using h))
theorem mem_setn {α : Type} : ∀ (l : List α) (i : Nat) (v a : α), a ∈ setn l i v → a = v ∨ a ∈ l
  | [], i, v, a, h => by simp [setn] at h
  | b :: l, 0, v, a, h => by
    rcases List.mem_cons.mp (by simpa [setn] using h) with h | h
    · exact Or.inl h
    · exact Or.inr (List.mem_cons_of_mem _ h)
  | b :: l, i + 1, v, a, h => by
    have h2 : a = b ∨ a ∈ setn l i v := List.mem_cons.mp (by simpa [setn] using h)
    rcases h2 with h | h
    · exact Or.inr (by rw [h]; exact List.mem_cons_self)
    · rcases mem_setn l i v a h with h | h
      · exact Or.inl h
      · exact Or.inr (List.mem_cons_of_mem _ h)
/-- the locals as a list of pairs, for the kit's rows -/
def lvOf (ad : AdT) (L : List MV) : List (Nat × Value) := (List.range L.length).filterMap fun i => match nth L i with
  | some (.inr (.inr (.inr _))) => none
  | some v => some (i, toV ad v)
  | none => none
theorem lvOf_mem {i : Nat} {v : MV} (h : nth L i = some v) (hx : v ≠ vX) : (i, toV ad v) ∈ lvOf ad L := by
  refine List.mem_filterMap.mpr ⟨i, List.mem_range.mpr (nth_lt _ _ _ h), ?_⟩
  rw [h]
  rcases v with v | v | v | v
  · rfl
  · rfl
  · rfl
  · exact absurd rfl hx
theorem lvOf_has (h : Locs ad L ls) : lv_has ls L.length (lvOf ad L) := by
  refine ⟨h.1, h.2.1, fun q hq => ?_⟩
  obtain ⟨i, -, hi⟩ := List.mem_filterMap.mp hq
  rcases e : nth L i with _ | v
  · rw [e] at hi; cases hi
  · rw [e] at hi
    rcases v with v | v | v | v
    · cases hi; exact h.2.2 i _ e (by intro z; cases z)
    · cases hi; exact h.2.2 i _ e (by intro z; cases z)
    · cases hi; exact h.2.2 i _ e (by intro z; cases z)
    · cases hi
end WALK
end
section
theorem okI_x {m j : Nat} {ins : Instr} (h : okI m j ins = true) : ∃ raw len, decode (mCode m) (bpc m j) = .ok (raw, len) ∧ bpc m (j + 1) = bpc m j + len ∧ (lenOf raw = 0 ∨ len = lenOf raw) ∧ rz m (bpc m j) raw ins = true := by
  unfold okI at h
  split at h
  · rename_i raw len e
    obtain ⟨h1, h2⟩ := band_t h
    obtain ⟨h3, h4⟩ := band_t h1
    refine ⟨raw, len, e, Nat.eq_of_beq_eq_true h3, ?_, h2⟩
    rcases z : Nat.beq (lenOf raw) 0 with _ | _
    · rw [z] at h4; exact Or.inr (Nat.eq_of_beq_eq_true h4)
    · exact Or.inl (Nat.eq_of_beq_eq_true z)
  · cases h
section WALK
variable {N m : Nat} {G : GT} {b : Nat} {xs : Nat → Int32} {out : Out}
variable {p : Program} {l : Launch} {e : Env} {R : Room} {s : State} {mid : MethodId} {args : Array Value} {below : List Frame} {meth : Method} {c : Code} {A : Nat → Prop} {H0 : Heap} {Q : State → Prop}
variable {F pc : Nat} {L st : List MV} {S : MS} {ad : AdT} {H : Heap} {locs : List Loc} {cells slots : Nat} {ls : Array Slot}
theorem go_on {pc' : Nat} {L' st' : List MV} {ls' : Array Slot} (ih : IH N F m G b xs out p l e R s mid args below meth c A H0 Q) (hH : Here N m G b xs out p l e R s mid args below meth c A H0 Q L st S ad H locs cells slots ls)
    (hx : exec N F m pc' L' st' S = some out) (hL : ∀ v ∈ L', okV S.1 v) (hst : ∀ v ∈ st', okV S.1 v) (hJ : mLong m = false → ∀ v ∈ L', isJ v = false) (hl : Locs ad L' ls') (hn : L'.length = mMaxL m) :
    W p l e R s mid args below meth c H locs cells slots Q (F0 mid (bpc m pc') ls' (st'.map (toV ad))) :=
  ih pc' L' st' S ad H locs cells slots ls' hx ⟨hH.1, hL, hst, hJ, hl, hn, hH.2.2.2.2.2.2.1, hH.2.2.2.2.2.2.2.1, hH.2.2.2.2.2.2.2.2⟩
/-- the stack alone has changed -/
theorem go_st {pc' : Nat} {st' : List MV} (ih : IH N F m G b xs out p l e R s mid args below meth c A H0 Q) (hH : Here N m G b xs out p l e R s mid args below meth c A H0 Q L st S ad H locs cells slots ls)
    (hx : exec N F m pc' L st' S = some out) (hst : ∀ v ∈ st', okV S.1 v) : W p l e R s mid args below meth c H locs cells slots Q (F0 mid (bpc m pc') ls (st'.map (toV ad))) :=
  go_on ih hH hx hH.2.1 hst hH.2.2.2.1 hH.2.2.2.2.1 hH.2.2.2.2.2.1
theorem ok1 {n : Nat} {v : MV} {st' : List MV} (hv : okV n v) (h : ∀ v ∈ st', okV n v) : ∀ u ∈ v :: st', okV n u := by
  intro u hu
  rcases List.mem_cons.mp hu with h1 | h1
  · rw [h1]; exact hv
  · exact h u h1
theorem okt {n : Nat} {v : MV} {st' : List MV} (h : ∀ u ∈ v :: st', okV n u) : ∀ u ∈ st', okV n u := fun u hu => h u (List.mem_cons_of_mem _ hu)
theorem okh {n : Nat} {v : MV} {st' : List MV} (h : ∀ u ∈ v :: st', okV n u) : okV n v := h v List.mem_cons_self
end WALK
end
section
section WALK
variable {N m : Nat} {G : GT} {b : Nat} {xs : Nat → Int32} {out : Out}
variable {p : Program} {l : Launch} {e : Env} {R : Room} {s : State} {mid : MethodId} {args : Array Value} {below : List Frame} {meth : Method} {c : Code} {A : Nat → Prop} {H0 : Heap} {Q : State → Prop}
variable {F pc : Nat} {L st : List MV} {S : MS} {ad : AdT} {H : Heap} {locs : List Loc} {cells slots : Nat} {ls : Array Slot}

theorem s_iadd (hC : Cx N m G b xs p R s mid args meth c A H0) (ih : IH N F m G b xs out p l e R s mid args below meth c A H0 Q) (hH : Here N m G b xs out p l e R s mid args below meth c A H0 Q L st S ad H locs cells slots ls)
    {raw : Instr} {len : Nat} (hd : decode (mCode m) (bpc m pc) = .ok (raw, len)) (hn : bpc m (pc + 1) = bpc m pc + len) (hlen : lenOf raw = 0 ∨ len = lenOf raw) (hz : rz m (bpc m pc) raw (.iadd) = true)
    (he : x_iop (fun a b => w32 (a + b)) pc L st S (exec N F m) none = some out) : W p l e R s mid args below meth c H locs cells slots Q (F0 mid (bpc m pc) ls (st.map (toV ad))) := by
  obtain ⟨hm264, hx, hb, hml, hown, hts, hini, hfr, hlo, hGS, hA, hX, hbl, hbA, hTX, hN⟩ := hC
  unfold x_iop at he
  rcases st with _ | ⟨(y | (y | (y | y))), _ | ⟨(x | (x | (x | x))), st⟩⟩ <;> first | (cases he; done) | skip
  have hy := okh hH.2.2.1
  have hv := okh (okt hH.2.2.1)
  have hr := okt (okt hH.2.2.1)
  have k := go_st ih hH he (ok1 (w32_in _) hr)
  rw [hn] at k
  unfold rz at hz
  dsimp only at hz
  split at hz
  · rcases hlen with h | h
    · cases h
    · rw [h] at hd k
      exact lv_iadd hx hb hd (by rw [← add32]; exact k)
  · cases hz

theorem s_isub (hC : Cx N m G b xs p R s mid args meth c A H0) (ih : IH N F m G b xs out p l e R s mid args below meth c A H0 Q) (hH : Here N m G b xs out p l e R s mid args below meth c A H0 Q L st S ad H locs cells slots ls)
    {raw : Instr} {len : Nat} (hd : decode (mCode m) (bpc m pc) = .ok (raw, len)) (hn : bpc m (pc + 1) = bpc m pc + len) (hlen : lenOf raw = 0 ∨ len = lenOf raw) (hz : rz m (bpc m pc) raw (.isub) = true)
    (he : x_iop (fun a b => w32 (a - b)) pc L st S (exec N F m) none = some out) : W p l e R s mid args below meth c H locs cells slots Q (F0 mid (bpc m pc) ls (st.map (toV ad))) := by
  obtain ⟨hm264, hx, hb, hml, hown, hts, hini, hfr, hlo, hGS, hA, hX, hbl, hbA, hTX, hN⟩ := hC
  unfold x_iop at he
  rcases st with _ | ⟨(y | (y | (y | y))), _ | ⟨(x | (x | (x | x))), st⟩⟩ <;> first | (cases he; done) | skip
  have hy := okh hH.2.2.1
  have hv := okh (okt hH.2.2.1)
  have hr := okt (okt hH.2.2.1)
  have k := go_st ih hH he (ok1 (w32_in _) hr)
  rw [hn] at k
  unfold rz at hz
  dsimp only at hz
  split at hz
  · rcases hlen with h | h
    · cases h
    · rw [h] at hd k
      exact lv_isub hx hb hd (by rw [← sub32]; exact k)
  · cases hz

theorem s_imul (hC : Cx N m G b xs p R s mid args meth c A H0) (ih : IH N F m G b xs out p l e R s mid args below meth c A H0 Q) (hH : Here N m G b xs out p l e R s mid args below meth c A H0 Q L st S ad H locs cells slots ls)
    {raw : Instr} {len : Nat} (hd : decode (mCode m) (bpc m pc) = .ok (raw, len)) (hn : bpc m (pc + 1) = bpc m pc + len) (hlen : lenOf raw = 0 ∨ len = lenOf raw) (hz : rz m (bpc m pc) raw (.imul) = true)
    (he : x_iop (fun a b => w32 (a * b)) pc L st S (exec N F m) none = some out) : W p l e R s mid args below meth c H locs cells slots Q (F0 mid (bpc m pc) ls (st.map (toV ad))) := by
  obtain ⟨hm264, hx, hb, hml, hown, hts, hini, hfr, hlo, hGS, hA, hX, hbl, hbA, hTX, hN⟩ := hC
  unfold x_iop at he
  rcases st with _ | ⟨(y | (y | (y | y))), _ | ⟨(x | (x | (x | x))), st⟩⟩ <;> first | (cases he; done) | skip
  have hy := okh hH.2.2.1
  have hv := okh (okt hH.2.2.1)
  have hr := okt (okt hH.2.2.1)
  have k := go_st ih hH he (ok1 (w32_in _) hr)
  rw [hn] at k
  unfold rz at hz
  dsimp only at hz
  split at hz
  · rcases hlen with h | h
    · cases h
    · rw [h] at hd k
      exact lv_imul hx hb hd (by rw [← mul32]; exact k)
  · cases hz

theorem s_iand (hC : Cx N m G b xs p R s mid args meth c A H0) (ih : IH N F m G b xs out p l e R s mid args below meth c A H0 Q) (hH : Here N m G b xs out p l e R s mid args below meth c A H0 Q L st S ad H locs cells slots ls)
    {raw : Instr} {len : Nat} (hd : decode (mCode m) (bpc m pc) = .ok (raw, len)) (hn : bpc m (pc + 1) = bpc m pc + len) (hlen : lenOf raw = 0 ∨ len = lenOf raw) (hz : rz m (bpc m pc) raw (.iand) = true)
    (he : x_iop bAnd pc L st S (exec N F m) none = some out) : W p l e R s mid args below meth c H locs cells slots Q (F0 mid (bpc m pc) ls (st.map (toV ad))) := by
  obtain ⟨hm264, hx, hb, hml, hown, hts, hini, hfr, hlo, hGS, hA, hX, hbl, hbA, hTX, hN⟩ := hC
  unfold x_iop at he
  rcases st with _ | ⟨(y | (y | (y | y))), _ | ⟨(x | (x | (x | x))), st⟩⟩ <;> first | (cases he; done) | skip
  have hy := okh hH.2.2.1
  have hv := okh (okt hH.2.2.1)
  have hr := okt (okt hH.2.2.1)
  have k := go_st ih hH he (ok1 (in32_of _) hr)
  rw [hn] at k
  unfold rz at hz
  dsimp only at hz
  split at hz
  · rcases hlen with h | h
    · cases h
    · rw [h] at hd k
      have q := of32 (Int32.ofInt x &&& Int32.ofInt y)
      exact lv_iand hx hb hd (by rw [← q]; exact k)
  · cases hz

theorem s_ior (hC : Cx N m G b xs p R s mid args meth c A H0) (ih : IH N F m G b xs out p l e R s mid args below meth c A H0 Q) (hH : Here N m G b xs out p l e R s mid args below meth c A H0 Q L st S ad H locs cells slots ls)
    {raw : Instr} {len : Nat} (hd : decode (mCode m) (bpc m pc) = .ok (raw, len)) (hn : bpc m (pc + 1) = bpc m pc + len) (hlen : lenOf raw = 0 ∨ len = lenOf raw) (hz : rz m (bpc m pc) raw (.ior) = true)
    (he : x_iop bOr pc L st S (exec N F m) none = some out) : W p l e R s mid args below meth c H locs cells slots Q (F0 mid (bpc m pc) ls (st.map (toV ad))) := by
  obtain ⟨hm264, hx, hb, hml, hown, hts, hini, hfr, hlo, hGS, hA, hX, hbl, hbA, hTX, hN⟩ := hC
  unfold x_iop at he
  rcases st with _ | ⟨(y | (y | (y | y))), _ | ⟨(x | (x | (x | x))), st⟩⟩ <;> first | (cases he; done) | skip
  have hy := okh hH.2.2.1
  have hv := okh (okt hH.2.2.1)
  have hr := okt (okt hH.2.2.1)
  have k := go_st ih hH he (ok1 (in32_of _) hr)
  rw [hn] at k
  unfold rz at hz
  dsimp only at hz
  split at hz
  · rcases hlen with h | h
    · cases h
    · rw [h] at hd k
      have q := of32 (Int32.ofInt x ||| Int32.ofInt y)
      exact lv_ior hx hb hd (by rw [← q]; exact k)
  · cases hz

theorem s_ixor (hC : Cx N m G b xs p R s mid args meth c A H0) (ih : IH N F m G b xs out p l e R s mid args below meth c A H0 Q) (hH : Here N m G b xs out p l e R s mid args below meth c A H0 Q L st S ad H locs cells slots ls)
    {raw : Instr} {len : Nat} (hd : decode (mCode m) (bpc m pc) = .ok (raw, len)) (hn : bpc m (pc + 1) = bpc m pc + len) (hlen : lenOf raw = 0 ∨ len = lenOf raw) (hz : rz m (bpc m pc) raw (.ixor) = true)
    (he : x_iop bXor pc L st S (exec N F m) none = some out) : W p l e R s mid args below meth c H locs cells slots Q (F0 mid (bpc m pc) ls (st.map (toV ad))) := by
  obtain ⟨hm264, hx, hb, hml, hown, hts, hini, hfr, hlo, hGS, hA, hX, hbl, hbA, hTX, hN⟩ := hC
  unfold x_iop at he
  rcases st with _ | ⟨(y | (y | (y | y))), _ | ⟨(x | (x | (x | x))), st⟩⟩ <;> first | (cases he; done) | skip
  have hy := okh hH.2.2.1
  have hv := okh (okt hH.2.2.1)
  have hr := okt (okt hH.2.2.1)
  have k := go_st ih hH he (ok1 (in32_of _) hr)
  rw [hn] at k
  unfold rz at hz
  dsimp only at hz
  split at hz
  · rcases hlen with h | h
    · cases h
    · rw [h] at hd k
      have q := of32 (Int32.ofInt x ^^^ Int32.ofInt y)
      exact lv_ixor hx hb hd (by rw [← q]; exact k)
  · cases hz

theorem s_ishl (hC : Cx N m G b xs p R s mid args meth c A H0) (ih : IH N F m G b xs out p l e R s mid args below meth c A H0 Q) (hH : Here N m G b xs out p l e R s mid args below meth c A H0 Q L st S ad H locs cells slots ls)
    {raw : Instr} {len : Nat} (hd : decode (mCode m) (bpc m pc) = .ok (raw, len)) (hn : bpc m (pc + 1) = bpc m pc + len) (hlen : lenOf raw = 0 ∨ len = lenOf raw) (hz : rz m (bpc m pc) raw (.ishl) = true)
    (he : x_iop shl32 pc L st S (exec N F m) none = some out) : W p l e R s mid args below meth c H locs cells slots Q (F0 mid (bpc m pc) ls (st.map (toV ad))) := by
  obtain ⟨hm264, hx, hb, hml, hown, hts, hini, hfr, hlo, hGS, hA, hX, hbl, hbA, hTX, hN⟩ := hC
  unfold x_iop at he
  rcases st with _ | ⟨(y | (y | (y | y))), _ | ⟨(x | (x | (x | x))), st⟩⟩ <;> first | (cases he; done) | skip
  have hy := okh hH.2.2.1
  have hv := okh (okt hH.2.2.1)
  have hr := okt (okt hH.2.2.1)
  have k := go_st ih hH he (ok1 (in32_of _) hr)
  rw [hn] at k
  unfold rz at hz
  dsimp only at hz
  split at hz
  · rcases hlen with h | h
    · cases h
    · rw [h] at hd k
      have q := of32 (Int32.ofInt x <<< (Int32.ofInt y &&& 31))
      exact lv_ishl hx hb hd (by rw [← q]; exact k)
  · cases hz

theorem s_ishr (hC : Cx N m G b xs p R s mid args meth c A H0) (ih : IH N F m G b xs out p l e R s mid args below meth c A H0 Q) (hH : Here N m G b xs out p l e R s mid args below meth c A H0 Q L st S ad H locs cells slots ls)
    {raw : Instr} {len : Nat} (hd : decode (mCode m) (bpc m pc) = .ok (raw, len)) (hn : bpc m (pc + 1) = bpc m pc + len) (hlen : lenOf raw = 0 ∨ len = lenOf raw) (hz : rz m (bpc m pc) raw (.ishr) = true)
    (he : x_iop shr32 pc L st S (exec N F m) none = some out) : W p l e R s mid args below meth c H locs cells slots Q (F0 mid (bpc m pc) ls (st.map (toV ad))) := by
  obtain ⟨hm264, hx, hb, hml, hown, hts, hini, hfr, hlo, hGS, hA, hX, hbl, hbA, hTX, hN⟩ := hC
  unfold x_iop at he
  rcases st with _ | ⟨(y | (y | (y | y))), _ | ⟨(x | (x | (x | x))), st⟩⟩ <;> first | (cases he; done) | skip
  have hy := okh hH.2.2.1
  have hv := okh (okt hH.2.2.1)
  have hr := okt (okt hH.2.2.1)
  have k := go_st ih hH he (ok1 (in32_of _) hr)
  rw [hn] at k
  unfold rz at hz
  dsimp only at hz
  split at hz
  · rcases hlen with h | h
    · cases h
    · rw [h] at hd k
      have q := of32 (Int32.ofInt x >>> (Int32.ofInt y &&& 31))
      exact lv_ishr hx hb hd (by rw [← q]; exact k)
  · cases hz

theorem s_idiv (hC : Cx N m G b xs p R s mid args meth c A H0) (ih : IH N F m G b xs out p l e R s mid args below meth c A H0 Q) (hH : Here N m G b xs out p l e R s mid args below meth c A H0 Q L st S ad H locs cells slots ls)
    {raw : Instr} {len : Nat} (hd : decode (mCode m) (bpc m pc) = .ok (raw, len)) (hn : bpc m (pc + 1) = bpc m pc + len) (hlen : lenOf raw = 0 ∨ len = lenOf raw) (hz : rz m (bpc m pc) raw (.idiv) = true)
    (he : x_idv (fun a b => w32 (a.tdiv b)) pc L st S (exec N F m) none = some out) : W p l e R s mid args below meth c H locs cells slots Q (F0 mid (bpc m pc) ls (st.map (toV ad))) := by
  obtain ⟨hm264, hx, hb, hml, hown, hts, hini, hfr, hlo, hGS, hA, hX, hbl, hbA, hTX, hN⟩ := hC
  unfold x_idv at he
  rcases st with _ | ⟨(y | (y | (y | y))), _ | ⟨(x | (x | (x | x))), st⟩⟩ <;> first | (cases he; done) | skip
  have hy := okh hH.2.2.1
  have hv := okh (okt hH.2.2.1)
  have hr := okt (okt hH.2.2.1)
  dsimp only at he
  by_cases h0 : y = 0
  · rw [if_pos h0] at he; cases he
  rw [if_neg h0] at he
  have k := go_st ih hH he (ok1 (w32_in _) hr)
  rw [hn] at k
  unfold rz at hz
  dsimp only at hz
  split at hz
  · rcases hlen with h | h
    · cases h
    · rw [h] at hd k
      exact lv_idiv hx hb hd (fun z => h0 ((eq32 hy in32_0).mp z)) (by rw [← div32 hv hy]; exact k)
  · cases hz

theorem s_irem (hC : Cx N m G b xs p R s mid args meth c A H0) (ih : IH N F m G b xs out p l e R s mid args below meth c A H0 Q) (hH : Here N m G b xs out p l e R s mid args below meth c A H0 Q L st S ad H locs cells slots ls)
    {raw : Instr} {len : Nat} (hd : decode (mCode m) (bpc m pc) = .ok (raw, len)) (hn : bpc m (pc + 1) = bpc m pc + len) (hlen : lenOf raw = 0 ∨ len = lenOf raw) (hz : rz m (bpc m pc) raw (.irem) = true)
    (he : x_idv Int.tmod pc L st S (exec N F m) none = some out) : W p l e R s mid args below meth c H locs cells slots Q (F0 mid (bpc m pc) ls (st.map (toV ad))) := by
  obtain ⟨hm264, hx, hb, hml, hown, hts, hini, hfr, hlo, hGS, hA, hX, hbl, hbA, hTX, hN⟩ := hC
  unfold x_idv at he
  rcases st with _ | ⟨(y | (y | (y | y))), _ | ⟨(x | (x | (x | x))), st⟩⟩ <;> first | (cases he; done) | skip
  have hy := okh hH.2.2.1
  have hv := okh (okt hH.2.2.1)
  have hr := okt (okt hH.2.2.1)
  dsimp only at he
  by_cases h0 : y = 0
  · rw [if_pos h0] at he; cases he
  rw [if_neg h0] at he
  have k := go_st ih hH he (ok1 (tmod_in32 hv) hr)
  rw [hn] at k
  unfold rz at hz
  dsimp only at hz
  split at hz
  · rcases hlen with h | h
    · cases h
    · rw [h] at hd k
      exact lv_irem hx hb hd (fun z => h0 ((eq32 hy in32_0).mp z)) (by rw [← rem32 hv hy]; exact k)
  · cases hz

theorem s_ladd (hC : Cx N m G b xs p R s mid args meth c A H0) (ih : IH N F m G b xs out p l e R s mid args below meth c A H0 Q) (hH : Here N m G b xs out p l e R s mid args below meth c A H0 Q L st S ad H locs cells slots ls)
    {raw : Instr} {len : Nat} (hd : decode (mCode m) (bpc m pc) = .ok (raw, len)) (hn : bpc m (pc + 1) = bpc m pc + len) (hlen : lenOf raw = 0 ∨ len = lenOf raw) (hz : rz m (bpc m pc) raw (.ladd) = true)
    (he : x_lop (fun a b => w64 (a + b)) pc L st S (exec N F m) none = some out) : W p l e R s mid args below meth c H locs cells slots Q (F0 mid (bpc m pc) ls (st.map (toV ad))) := by
  obtain ⟨hm264, hx, hb, hml, hown, hts, hini, hfr, hlo, hGS, hA, hX, hbl, hbA, hTX, hN⟩ := hC
  unfold x_lop at he
  rcases st with _ | ⟨(y | (y | (y | y))), _ | ⟨(x | (x | (x | x))), st⟩⟩ <;> first | (cases he; done) | skip
  have hy := okh hH.2.2.1
  have hv := okh (okt hH.2.2.1)
  have hr := okt (okt hH.2.2.1)
  have k := go_st ih hH he (ok1 (w64_in _) hr)
  rw [hn] at k
  unfold rz at hz
  dsimp only at hz
  split at hz
  · rcases hlen with h | h
    · cases h
    · rw [h] at hd k
      exact lv_ladd hx hb hd (by rw [← add64]; exact k)
  · cases hz

theorem s_lmul (hC : Cx N m G b xs p R s mid args meth c A H0) (ih : IH N F m G b xs out p l e R s mid args below meth c A H0 Q) (hH : Here N m G b xs out p l e R s mid args below meth c A H0 Q L st S ad H locs cells slots ls)
    {raw : Instr} {len : Nat} (hd : decode (mCode m) (bpc m pc) = .ok (raw, len)) (hn : bpc m (pc + 1) = bpc m pc + len) (hlen : lenOf raw = 0 ∨ len = lenOf raw) (hz : rz m (bpc m pc) raw (.lmul) = true)
    (he : x_lop (fun a b => w64 (a * b)) pc L st S (exec N F m) none = some out) : W p l e R s mid args below meth c H locs cells slots Q (F0 mid (bpc m pc) ls (st.map (toV ad))) := by
  obtain ⟨hm264, hx, hb, hml, hown, hts, hini, hfr, hlo, hGS, hA, hX, hbl, hbA, hTX, hN⟩ := hC
  unfold x_lop at he
  rcases st with _ | ⟨(y | (y | (y | y))), _ | ⟨(x | (x | (x | x))), st⟩⟩ <;> first | (cases he; done) | skip
  have hy := okh hH.2.2.1
  have hv := okh (okt hH.2.2.1)
  have hr := okt (okt hH.2.2.1)
  have k := go_st ih hH he (ok1 (w64_in _) hr)
  rw [hn] at k
  unfold rz at hz
  dsimp only at hz
  split at hz
  · rcases hlen with h | h
    · cases h
    · rw [h] at hd k
      exact lv_lmul hx hb hd (by rw [← mul64]; exact k)
  · cases hz

theorem s_lor (hC : Cx N m G b xs p R s mid args meth c A H0) (ih : IH N F m G b xs out p l e R s mid args below meth c A H0 Q) (hH : Here N m G b xs out p l e R s mid args below meth c A H0 Q L st S ad H locs cells slots ls)
    {raw : Instr} {len : Nat} (hd : decode (mCode m) (bpc m pc) = .ok (raw, len)) (hn : bpc m (pc + 1) = bpc m pc + len) (hlen : lenOf raw = 0 ∨ len = lenOf raw) (hz : rz m (bpc m pc) raw (.lor) = true)
    (he : x_lop jOr pc L st S (exec N F m) none = some out) : W p l e R s mid args below meth c H locs cells slots Q (F0 mid (bpc m pc) ls (st.map (toV ad))) := by
  obtain ⟨hm264, hx, hb, hml, hown, hts, hini, hfr, hlo, hGS, hA, hX, hbl, hbA, hTX, hN⟩ := hC
  unfold x_lop at he
  rcases st with _ | ⟨(y | (y | (y | y))), _ | ⟨(x | (x | (x | x))), st⟩⟩ <;> first | (cases he; done) | skip
  have hy := okh hH.2.2.1
  have hv := okh (okt hH.2.2.1)
  have hr := okt (okt hH.2.2.1)
  have k := go_st ih hH he (ok1 (in64_of _) hr)
  rw [hn] at k
  unfold rz at hz
  dsimp only at hz
  split at hz
  · rcases hlen with h | h
    · cases h
    · rw [h] at hd k
      have q := of64 (Int64.ofInt x ||| Int64.ofInt y)
      exact lv_lor hx hb hd (by rw [← q]; exact k)
  · cases hz

theorem s_ldiv (hC : Cx N m G b xs p R s mid args meth c A H0) (ih : IH N F m G b xs out p l e R s mid args below meth c A H0 Q) (hH : Here N m G b xs out p l e R s mid args below meth c A H0 Q L st S ad H locs cells slots ls)
    {raw : Instr} {len : Nat} (hd : decode (mCode m) (bpc m pc) = .ok (raw, len)) (hn : bpc m (pc + 1) = bpc m pc + len) (hlen : lenOf raw = 0 ∨ len = lenOf raw) (hz : rz m (bpc m pc) raw (.ldiv) = true)
    (he : x_ldv (fun a b => w64 (a.tdiv b)) pc L st S (exec N F m) none = some out) : W p l e R s mid args below meth c H locs cells slots Q (F0 mid (bpc m pc) ls (st.map (toV ad))) := by
  obtain ⟨hm264, hx, hb, hml, hown, hts, hini, hfr, hlo, hGS, hA, hX, hbl, hbA, hTX, hN⟩ := hC
  unfold x_ldv at he
  rcases st with _ | ⟨(y | (y | (y | y))), _ | ⟨(x | (x | (x | x))), st⟩⟩ <;> first | (cases he; done) | skip
  have hy := okh hH.2.2.1
  have hv := okh (okt hH.2.2.1)
  have hr := okt (okt hH.2.2.1)
  dsimp only at he
  by_cases h0 : y = 0
  · rw [if_pos h0] at he; cases he
  rw [if_neg h0] at he
  have k := go_st ih hH he (ok1 (w64_in _) hr)
  rw [hn] at k
  unfold rz at hz
  dsimp only at hz
  split at hz
  · rcases hlen with h | h
    · cases h
    · rw [h] at hd k
      exact lv_ldiv hx hb hd (fun z => h0 ((eq64 hy in64_0).mp z)) (by rw [← div64 hv hy]; exact k)
  · cases hz

theorem s_lrem (hC : Cx N m G b xs p R s mid args meth c A H0) (ih : IH N F m G b xs out p l e R s mid args below meth c A H0 Q) (hH : Here N m G b xs out p l e R s mid args below meth c A H0 Q L st S ad H locs cells slots ls)
    {raw : Instr} {len : Nat} (hd : decode (mCode m) (bpc m pc) = .ok (raw, len)) (hn : bpc m (pc + 1) = bpc m pc + len) (hlen : lenOf raw = 0 ∨ len = lenOf raw) (hz : rz m (bpc m pc) raw (.lrem) = true)
    (he : x_ldv Int.tmod pc L st S (exec N F m) none = some out) : W p l e R s mid args below meth c H locs cells slots Q (F0 mid (bpc m pc) ls (st.map (toV ad))) := by
  obtain ⟨hm264, hx, hb, hml, hown, hts, hini, hfr, hlo, hGS, hA, hX, hbl, hbA, hTX, hN⟩ := hC
  unfold x_ldv at he
  rcases st with _ | ⟨(y | (y | (y | y))), _ | ⟨(x | (x | (x | x))), st⟩⟩ <;> first | (cases he; done) | skip
  have hy := okh hH.2.2.1
  have hv := okh (okt hH.2.2.1)
  have hr := okt (okt hH.2.2.1)
  dsimp only at he
  by_cases h0 : y = 0
  · rw [if_pos h0] at he; cases he
  rw [if_neg h0] at he
  have k := go_st ih hH he (ok1 (tmod_in64 hv) hr)
  rw [hn] at k
  unfold rz at hz
  dsimp only at hz
  split at hz
  · rcases hlen with h | h
    · cases h
    · rw [h] at hd k
      exact lv_lrem hx hb hd (fun z => h0 ((eq64 hy in64_0).mp z)) (by rw [← rem64 hv hy]; exact k)
  · cases hz

theorem s_lshl (hC : Cx N m G b xs p R s mid args meth c A H0) (ih : IH N F m G b xs out p l e R s mid args below meth c A H0 Q) (hH : Here N m G b xs out p l e R s mid args below meth c A H0 Q L st S ad H locs cells slots ls)
    {raw : Instr} {len : Nat} (hd : decode (mCode m) (bpc m pc) = .ok (raw, len)) (hn : bpc m (pc + 1) = bpc m pc + len) (hlen : lenOf raw = 0 ∨ len = lenOf raw) (hz : rz m (bpc m pc) raw (.lshl) = true)
    (he : x_lsh shl64 pc L st S (exec N F m) none = some out) : W p l e R s mid args below meth c H locs cells slots Q (F0 mid (bpc m pc) ls (st.map (toV ad))) := by
  obtain ⟨hm264, hx, hb, hml, hown, hts, hini, hfr, hlo, hGS, hA, hX, hbl, hbA, hTX, hN⟩ := hC
  unfold x_lsh at he
  rcases st with _ | ⟨(y | (y | (y | y))), _ | ⟨(x | (x | (x | x))), st⟩⟩ <;> first | (cases he; done) | skip
  have hy := okh hH.2.2.1
  have hv := okh (okt hH.2.2.1)
  have hr := okt (okt hH.2.2.1)
  have k := go_st ih hH he (ok1 (in64_of _) hr)
  rw [hn] at k
  unfold rz at hz
  dsimp only at hz
  split at hz
  · rcases hlen with h | h
    · cases h
    · rw [h] at hd k
      exact lv_lshl hx hb hd (of64 _).symm k
  · cases hz

theorem s_lshr (hC : Cx N m G b xs p R s mid args meth c A H0) (ih : IH N F m G b xs out p l e R s mid args below meth c A H0 Q) (hH : Here N m G b xs out p l e R s mid args below meth c A H0 Q L st S ad H locs cells slots ls)
    {raw : Instr} {len : Nat} (hd : decode (mCode m) (bpc m pc) = .ok (raw, len)) (hn : bpc m (pc + 1) = bpc m pc + len) (hlen : lenOf raw = 0 ∨ len = lenOf raw) (hz : rz m (bpc m pc) raw (.lshr) = true)
    (he : x_lsh shr64 pc L st S (exec N F m) none = some out) : W p l e R s mid args below meth c H locs cells slots Q (F0 mid (bpc m pc) ls (st.map (toV ad))) := by
  obtain ⟨hm264, hx, hb, hml, hown, hts, hini, hfr, hlo, hGS, hA, hX, hbl, hbA, hTX, hN⟩ := hC
  unfold x_lsh at he
  rcases st with _ | ⟨(y | (y | (y | y))), _ | ⟨(x | (x | (x | x))), st⟩⟩ <;> first | (cases he; done) | skip
  have hy := okh hH.2.2.1
  have hv := okh (okt hH.2.2.1)
  have hr := okt (okt hH.2.2.1)
  have k := go_st ih hH he (ok1 (in64_of _) hr)
  rw [hn] at k
  unfold rz at hz
  dsimp only at hz
  split at hz
  · rcases hlen with h | h
    · cases h
    · rw [h] at hd k
      exact lv_lshr hx hb hd (of64 _).symm k
  · cases hz

theorem s_lushr (hC : Cx N m G b xs p R s mid args meth c A H0) (ih : IH N F m G b xs out p l e R s mid args below meth c A H0 Q) (hH : Here N m G b xs out p l e R s mid args below meth c A H0 Q L st S ad H locs cells slots ls)
    {raw : Instr} {len : Nat} (hd : decode (mCode m) (bpc m pc) = .ok (raw, len)) (hn : bpc m (pc + 1) = bpc m pc + len) (hlen : lenOf raw = 0 ∨ len = lenOf raw) (hz : rz m (bpc m pc) raw (.lushr) = true)
    (he : x_lsh ushr64 pc L st S (exec N F m) none = some out) : W p l e R s mid args below meth c H locs cells slots Q (F0 mid (bpc m pc) ls (st.map (toV ad))) := by
  obtain ⟨hm264, hx, hb, hml, hown, hts, hini, hfr, hlo, hGS, hA, hX, hbl, hbA, hTX, hN⟩ := hC
  unfold x_lsh at he
  rcases st with _ | ⟨(y | (y | (y | y))), _ | ⟨(x | (x | (x | x))), st⟩⟩ <;> first | (cases he; done) | skip
  have hy := okh hH.2.2.1
  have hv := okh (okt hH.2.2.1)
  have hr := okt (okt hH.2.2.1)
  have k := go_st ih hH he (ok1 (in64_of _) hr)
  rw [hn] at k
  unfold rz at hz
  dsimp only at hz
  split at hz
  · rcases hlen with h | h
    · cases h
    · rw [h] at hd k
      exact lv_lushr hx hb hd (of64 _).symm k
  · cases hz

theorem s_i2l (hC : Cx N m G b xs p R s mid args meth c A H0) (ih : IH N F m G b xs out p l e R s mid args below meth c A H0 Q) (hH : Here N m G b xs out p l e R s mid args below meth c A H0 Q L st S ad H locs cells slots ls)
    {raw : Instr} {len : Nat} (hd : decode (mCode m) (bpc m pc) = .ok (raw, len)) (hn : bpc m (pc + 1) = bpc m pc + len) (hlen : lenOf raw = 0 ∨ len = lenOf raw) (hz : rz m (bpc m pc) raw (.i2l) = true)
    (he : x_i2l pc L st S (exec N F m) none = some out) : W p l e R s mid args below meth c H locs cells slots Q (F0 mid (bpc m pc) ls (st.map (toV ad))) := by
  obtain ⟨hm264, hx, hb, hml, hown, hts, hini, hfr, hlo, hGS, hA, hX, hbl, hbA, hTX, hN⟩ := hC
  unfold x_i2l at he
  rcases st with _ | ⟨(x | (x | (x | x))), st⟩ <;> first | (cases he; done) | skip
  have hv := okh hH.2.2.1
  have hr := okt hH.2.2.1
  have k := go_st ih hH he (ok1 (in32_64 hv) hr)
  rw [hn] at k
  unfold rz at hz
  dsimp only at hz
  split at hz
  · rcases hlen with h | h
    · cases h
    · rw [h] at hd k
      exact lv_i2l hx hb hd (i2l_of hv) k
  · cases hz

theorem s_l2i (hC : Cx N m G b xs p R s mid args meth c A H0) (ih : IH N F m G b xs out p l e R s mid args below meth c A H0 Q) (hH : Here N m G b xs out p l e R s mid args below meth c A H0 Q L st S ad H locs cells slots ls)
    {raw : Instr} {len : Nat} (hd : decode (mCode m) (bpc m pc) = .ok (raw, len)) (hn : bpc m (pc + 1) = bpc m pc + len) (hlen : lenOf raw = 0 ∨ len = lenOf raw) (hz : rz m (bpc m pc) raw (.l2i) = true)
    (he : x_l2i pc L st S (exec N F m) none = some out) : W p l e R s mid args below meth c H locs cells slots Q (F0 mid (bpc m pc) ls (st.map (toV ad))) := by
  obtain ⟨hm264, hx, hb, hml, hown, hts, hini, hfr, hlo, hGS, hA, hX, hbl, hbA, hTX, hN⟩ := hC
  unfold x_l2i at he
  rcases st with _ | ⟨(x | (x | (x | x))), st⟩ <;> first | (cases he; done) | skip
  have hv := okh hH.2.2.1
  have hr := okt hH.2.2.1
  have k := go_st ih hH he (ok1 (w32_in _) hr)
  rw [hn] at k
  unfold rz at hz
  dsimp only at hz
  split at hz
  · rcases hlen with h | h
    · cases h
    · rw [h] at hd k
      exact lv_l2i hx hb hd (l2i_of hv) k
  · cases hz

theorem s_i2b (hC : Cx N m G b xs p R s mid args meth c A H0) (ih : IH N F m G b xs out p l e R s mid args below meth c A H0 Q) (hH : Here N m G b xs out p l e R s mid args below meth c A H0 Q L st S ad H locs cells slots ls)
    {raw : Instr} {len : Nat} (hd : decode (mCode m) (bpc m pc) = .ok (raw, len)) (hn : bpc m (pc + 1) = bpc m pc + len) (hlen : lenOf raw = 0 ∨ len = lenOf raw) (hz : rz m (bpc m pc) raw (.i2b) = true)
    (he : x_i2b pc L st S (exec N F m) none = some out) : W p l e R s mid args below meth c H locs cells slots Q (F0 mid (bpc m pc) ls (st.map (toV ad))) := by
  obtain ⟨hm264, hx, hb, hml, hown, hts, hini, hfr, hlo, hGS, hA, hX, hbl, hbA, hTX, hN⟩ := hC
  unfold x_i2b at he
  rcases st with _ | ⟨(x | (x | (x | x))), st⟩ <;> first | (cases he; done) | skip
  have hv := okh hH.2.2.1
  have hr := okt hH.2.2.1
  have k := go_st ih hH he (ok1 (w8_in _) hr)
  rw [hn] at k
  unfold rz at hz
  dsimp only at hz
  split at hz
  · rcases hlen with h | h
    · cases h
    · rw [h] at hd k
      exact lv_i2b hx hb hd (i2b_of hv) k
  · cases hz

theorem s_iconst {v : Int} (hC : Cx N m G b xs p R s mid args meth c A H0) (ih : IH N F m G b xs out p l e R s mid args below meth c A H0 Q) (hH : Here N m G b xs out p l e R s mid args below meth c A H0 Q L st S ad H locs cells slots ls)
    {raw : Instr} {len : Nat} (hd : decode (mCode m) (bpc m pc) = .ok (raw, len)) (hn : bpc m (pc + 1) = bpc m pc + len) (hlen : lenOf raw = 0 ∨ len = lenOf raw) (hz : rz m (bpc m pc) raw (.iconst v) = true)
    (he : exec N F m (pc + 1) L (vI v :: st) S = some out) : W p l e R s mid args below meth c H locs cells slots Q (F0 mid (bpc m pc) ls (st.map (toV ad))) := by
  obtain ⟨hm264, hx, hb, hml, hown, hts, hini, hfr, hlo, hGS, hA, hX, hbl, hbA, hTX, hN⟩ := hC
  unfold rz at hz
  dsimp only at hz
  obtain ⟨hv0, hz⟩ := band_t hz
  have hv : in32 v := by unfold in32; exact of_decide_eq_true hv0
  have k := go_st ih hH he (ok1 (show okV S.1 (vI v) from hv) hH.2.2.1)
  rw [hn] at k
  split at hz <;> first | (cases hz; done) | skip
  all_goals
    rcases hlen with h | h
    · cases h
    rw [h] at hd k
  · have q := of_decide_eq_true hz
    subst q
    exact lv_iconst hx hb hd rfl k
  · exact lv_bipush hx hb hd (of_decide_eq_true hz) k
  · exact lv_sipush hx hb hd (of_decide_eq_true hz) k
  · obtain ⟨j, hj, hc⟩ := anyN_ex hz
    rcases z : decide (kCon j = v) with _ | _
    · rw [z] at hc; cases hc
    · rw [z, cond_true] at hc
      have q := of_decide_eq_true z
      subst q
      have w := hts _ (gw_of hc rfl)
      rw [wd_10] at w
      exact lv_ldc hx hb hown w hd k
  · obtain ⟨j, hj, hc⟩ := anyN_ex hz
    rcases z : decide (kCon j = v) with _ | _
    · rw [z] at hc; cases hc
    · rw [z, cond_true] at hc
      have q := of_decide_eq_true z
      subst q
      have w := hts _ (gw_of hc rfl)
      rw [wd_10] at w
      exact lv_ldcw hx hb hown w hd k

theorem s_jconst {v : Int} (hC : Cx N m G b xs p R s mid args meth c A H0) (ih : IH N F m G b xs out p l e R s mid args below meth c A H0 Q) (hH : Here N m G b xs out p l e R s mid args below meth c A H0 Q L st S ad H locs cells slots ls)
    {raw : Instr} {len : Nat} (hd : decode (mCode m) (bpc m pc) = .ok (raw, len)) (hn : bpc m (pc + 1) = bpc m pc + len) (hlen : lenOf raw = 0 ∨ len = lenOf raw) (hz : rz m (bpc m pc) raw (.jsr_w v) = true)
    (he : exec N F m (pc + 1) L (vJ v :: st) S = some out) : W p l e R s mid args below meth c H locs cells slots Q (F0 mid (bpc m pc) ls (st.map (toV ad))) := by
  obtain ⟨hm264, hx, hb, hml, hown, hts, hini, hfr, hlo, hGS, hA, hX, hbl, hbA, hTX, hN⟩ := hC
  unfold rz at hz
  dsimp only at hz
  obtain ⟨hv0, hz⟩ := band_t hz
  have hv : in64 v := by unfold in64; exact of_decide_eq_true hv0
  have k := go_st ih hH he (ok1 (show okV S.1 (vJ v) from hv) hH.2.2.1)
  rw [hn] at k
  split at hz <;> first | (cases hz; done) | skip
  all_goals
    rcases hlen with h | h
    · cases h
    rw [h] at hd k
  · have q := of_decide_eq_true hz
    subst q
    exact lv_lconst hx hb hd rfl k
  · obtain ⟨j, hj, hc⟩ := anyN_ex hz
    rcases z : decide (kConL j = v) with _ | _
    · rw [z] at hc; cases hc
    · rw [z, cond_true] at hc
      have q := of_decide_eq_true z
      subst q
      have w := hts _ (gw_of hc rfl)
      rw [wd_11] at w
      exact lv_ldc2 hx hb hown w hd k

theorem s_iload {i : Nat} (hC : Cx N m G b xs p R s mid args meth c A H0) (ih : IH N F m G b xs out p l e R s mid args below meth c A H0 Q) (hH : Here N m G b xs out p l e R s mid args below meth c A H0 Q L st S ad H locs cells slots ls)
    {raw : Instr} {len : Nat} (hd : decode (mCode m) (bpc m pc) = .ok (raw, len)) (hn : bpc m (pc + 1) = bpc m pc + len) (hlen : lenOf raw = 0 ∨ len = lenOf raw) (hz : rz m (bpc m pc) raw (.iload i) = true)
    (he : x_iload i pc L st S (exec N F m) none = some out) : W p l e R s mid args below meth c H locs cells slots Q (F0 mid (bpc m pc) ls (st.map (toV ad))) := by
  obtain ⟨hm264, hx, hb, hml, hown, hts, hini, hfr, hlo, hGS, hA, hX, hbl, hbA, hTX, hN⟩ := hC
  unfold x_iload at he
  rcases e1 : nth L i with _ | (x | (x | (x | x))) <;> rw [e1] at he <;> first | (cases he; done) | skip
  have hv : okV S.1 (vI x) := hH.2.1 _ (nth_mem _ _ _ e1)
  have hls : ls[i]? = some (.val (.int (Int32.ofInt x))) := hH.2.2.2.2.1.2.2 i _ e1 (by intro z; cases z)
  have k := go_st ih hH he (ok1 hv hH.2.2.1)
  rw [hn] at k
  unfold rz at hz
  dsimp only at hz
  split at hz
  · have q := Nat.eq_of_beq_eq_true hz
    subst q
    rcases hlen with h | h
    · cases h
    · rw [h] at hd k
      exact lv_iload hx hb hd hls k
  · have q := Nat.eq_of_beq_eq_true hz
    rcases hlen with h | h
    · cases h
    · rw [h] at hd k
      exact lv_iload_n hx hb hd q hls k
  · cases hz

theorem s_lload {i : Nat} (hC : Cx N m G b xs p R s mid args meth c A H0) (ih : IH N F m G b xs out p l e R s mid args below meth c A H0 Q) (hH : Here N m G b xs out p l e R s mid args below meth c A H0 Q L st S ad H locs cells slots ls)
    {raw : Instr} {len : Nat} (hd : decode (mCode m) (bpc m pc) = .ok (raw, len)) (hn : bpc m (pc + 1) = bpc m pc + len) (hlen : lenOf raw = 0 ∨ len = lenOf raw) (hz : rz m (bpc m pc) raw (.lload i) = true)
    (he : x_lload i pc L st S (exec N F m) none = some out) : W p l e R s mid args below meth c H locs cells slots Q (F0 mid (bpc m pc) ls (st.map (toV ad))) := by
  obtain ⟨hm264, hx, hb, hml, hown, hts, hini, hfr, hlo, hGS, hA, hX, hbl, hbA, hTX, hN⟩ := hC
  unfold x_lload at he
  rcases e1 : nth L i with _ | (x | (x | (x | x))) <;> rw [e1] at he <;> first | (cases he; done) | skip
  have hv : okV S.1 (vJ x) := hH.2.1 _ (nth_mem _ _ _ e1)
  have hls : ls[i]? = some (.val (.long (Int64.ofInt x))) := hH.2.2.2.2.1.2.2 i _ e1 (by intro z; cases z)
  have k := go_st ih hH he (ok1 hv hH.2.2.1)
  rw [hn] at k
  unfold rz at hz
  dsimp only at hz
  split at hz
  · have q := Nat.eq_of_beq_eq_true hz
    subst q
    rcases hlen with h | h
    · cases h
    · rw [h] at hd k
      exact lv_lload hx hb hd hls k
  · have q := Nat.eq_of_beq_eq_true hz
    rcases hlen with h | h
    · cases h
    · rw [h] at hd k
      exact lv_lload_n hx hb hd q hls k
  · cases hz

theorem s_aload {i : Nat} (hC : Cx N m G b xs p R s mid args meth c A H0) (ih : IH N F m G b xs out p l e R s mid args below meth c A H0 Q) (hH : Here N m G b xs out p l e R s mid args below meth c A H0 Q L st S ad H locs cells slots ls)
    {raw : Instr} {len : Nat} (hd : decode (mCode m) (bpc m pc) = .ok (raw, len)) (hn : bpc m (pc + 1) = bpc m pc + len) (hlen : lenOf raw = 0 ∨ len = lenOf raw) (hz : rz m (bpc m pc) raw (.aload i) = true)
    (he : x_aload i pc L st S (exec N F m) none = some out) : W p l e R s mid args below meth c H locs cells slots Q (F0 mid (bpc m pc) ls (st.map (toV ad))) := by
  obtain ⟨hm264, hx, hb, hml, hown, hts, hini, hfr, hlo, hGS, hA, hX, hbl, hbA, hTX, hN⟩ := hC
  unfold x_aload at he
  rcases e1 : nth L i with _ | (x | (x | (x | x))) <;> rw [e1] at he <;> first | (cases he; done) | skip
  have hv : okV S.1 (.inr (.inr (.inl x))) := hH.2.1 _ (nth_mem _ _ _ e1)
  have hls : ls[i]? = some (.val (.ref (ad x.1 x.2))) := hH.2.2.2.2.1.2.2 i _ e1 (by intro z; cases z)
  have k := go_st ih hH he (ok1 hv hH.2.2.1)
  rw [hn] at k
  unfold rz at hz
  dsimp only at hz
  split at hz
  · have q := Nat.eq_of_beq_eq_true hz
    subst q
    rcases hlen with h | h
    · cases h
    · rw [h] at hd k
      exact lv_aload hx hb hd hls k
  · have q := Nat.eq_of_beq_eq_true hz
    rcases hlen with h | h
    · cases h
    · rw [h] at hd k
      exact lv_aload_n hx hb hd q hls k
  · cases hz

theorem s_dup (hC : Cx N m G b xs p R s mid args meth c A H0) (ih : IH N F m G b xs out p l e R s mid args below meth c A H0 Q) (hH : Here N m G b xs out p l e R s mid args below meth c A H0 Q L st S ad H locs cells slots ls)
    {raw : Instr} {len : Nat} (hd : decode (mCode m) (bpc m pc) = .ok (raw, len)) (hn : bpc m (pc + 1) = bpc m pc + len) (hlen : lenOf raw = 0 ∨ len = lenOf raw) (hz : rz m (bpc m pc) raw (.dup) = true)
    (he : x_dup pc L st S (exec N F m) none = some out) : W p l e R s mid args below meth c H locs cells slots Q (F0 mid (bpc m pc) ls (st.map (toV ad))) := by
  obtain ⟨hm264, hx, hb, hml, hown, hts, hini, hfr, hlo, hGS, hA, hX, hbl, hbA, hTX, hN⟩ := hC
  unfold x_dup at he
  rcases st with _ | ⟨v, st⟩
  · cases he
  dsimp only at he
  rcases hj : isJ v with _ | _ <;> rw [hj] at he <;> first | (cases he; done) | skip
  have hc : (toV ad v).category = 1 := by rcases v with v | v | v | v <;> first | rfl | cases hj
  have k := go_st ih hH he (ok1 (okh hH.2.2.1) hH.2.2.1)
  rw [hn] at k
  unfold rz at hz
  dsimp only at hz
  split at hz
  · rcases hlen with h | h
    · cases h
    · rw [h] at hd k
      exact lv_dup hx hb hd hc k
  · cases hz

theorem s_dup2 (hC : Cx N m G b xs p R s mid args meth c A H0) (ih : IH N F m G b xs out p l e R s mid args below meth c A H0 Q) (hH : Here N m G b xs out p l e R s mid args below meth c A H0 Q L st S ad H locs cells slots ls)
    {raw : Instr} {len : Nat} (hd : decode (mCode m) (bpc m pc) = .ok (raw, len)) (hn : bpc m (pc + 1) = bpc m pc + len) (hlen : lenOf raw = 0 ∨ len = lenOf raw) (hz : rz m (bpc m pc) raw (.dup2) = true)
    (he : x_dup2 pc L st S (exec N F m) none = some out) : W p l e R s mid args below meth c H locs cells slots Q (F0 mid (bpc m pc) ls (st.map (toV ad))) := by
  obtain ⟨hm264, hx, hb, hml, hown, hts, hini, hfr, hlo, hGS, hA, hX, hbl, hbA, hTX, hN⟩ := hC
  unfold x_dup2 at he
  rcases st with _ | ⟨v, _ | ⟨u, st⟩⟩
  · cases he
  · cases he
  dsimp only at he
  rcases hj : isJ v with _ | _ <;> rw [hj] at he <;> first | (cases he; done) | skip
  rcases hj2 : isJ u with _ | _ <;> rw [hj2] at he <;> first | (cases he; done) | skip
  have hc : (toV ad v).category = 1 := by rcases v with v | v | v | v <;> first | rfl | cases hj
  have hc2 : (toV ad u).category = 1 := by rcases u with v | v | v | v <;> first | rfl | cases hj2
  have k := go_st ih hH he (ok1 (okh hH.2.2.1) (ok1 (okh (okt hH.2.2.1)) hH.2.2.1))
  rw [hn] at k
  unfold rz at hz
  dsimp only at hz
  split at hz
  · rcases hlen with h | h
    · cases h
    · rw [h] at hd k
      exact lv_dup2_11 hx hb hd hc hc2 k
  · cases hz

theorem s_pop (hC : Cx N m G b xs p R s mid args meth c A H0) (ih : IH N F m G b xs out p l e R s mid args below meth c A H0 Q) (hH : Here N m G b xs out p l e R s mid args below meth c A H0 Q L st S ad H locs cells slots ls)
    {raw : Instr} {len : Nat} (hd : decode (mCode m) (bpc m pc) = .ok (raw, len)) (hn : bpc m (pc + 1) = bpc m pc + len) (hlen : lenOf raw = 0 ∨ len = lenOf raw) (hz : rz m (bpc m pc) raw (.pop) = true)
    (he : x_pop pc L st S (exec N F m) none = some out) : W p l e R s mid args below meth c H locs cells slots Q (F0 mid (bpc m pc) ls (st.map (toV ad))) := by
  obtain ⟨hm264, hx, hb, hml, hown, hts, hini, hfr, hlo, hGS, hA, hX, hbl, hbA, hTX, hN⟩ := hC
  unfold x_pop at he
  rcases st with _ | ⟨v, st⟩
  · cases he
  dsimp only at he
  rcases hj : isJ v with _ | _ <;> rw [hj] at he <;> first | (cases he; done) | skip
  have hc : (toV ad v).category = 1 := by rcases v with v | v | v | v <;> first | rfl | cases hj
  have k := go_st ih hH he (okt hH.2.2.1)
  rw [hn] at k
  unfold rz at hz
  dsimp only at hz
  split at hz
  · rcases hlen with h | h
    · cases h
    · rw [h] at hd k
      exact lv_pop hx hb hd hc k
  · cases hz

theorem s_goto {t : Int} (hC : Cx N m G b xs p R s mid args meth c A H0) (ih : IH N F m G b xs out p l e R s mid args below meth c A H0 Q) (hH : Here N m G b xs out p l e R s mid args below meth c A H0 Q L st S ad H locs cells slots ls)
    {raw : Instr} {len : Nat} (hd : decode (mCode m) (bpc m pc) = .ok (raw, len)) (hn : bpc m (pc + 1) = bpc m pc + len) (hlen : lenOf raw = 0 ∨ len = lenOf raw) (hz : rz m (bpc m pc) raw (.goto t) = true)
    (he : exec N F m t.toNat L st S = some out) : W p l e R s mid args below meth c H locs cells slots Q (F0 mid (bpc m pc) ls (st.map (toV ad))) := by
  obtain ⟨hm264, hx, hb, hml, hown, hts, hini, hfr, hlo, hGS, hA, hX, hbl, hbA, hTX, hN⟩ := hC
  have k := go_st ih hH he hH.2.2.1
  unfold rz at hz
  dsimp only at hz
  split at hz
  · rcases hlen with h | h
    · cases h
    · rw [h] at hd
      exact lv_goto hx hb hd (of_decide_eq_true hz) k
  · cases hz

theorem s_ifnull {t : Int} (hC : Cx N m G b xs p R s mid args meth c A H0) (ih : IH N F m G b xs out p l e R s mid args below meth c A H0 Q) (hH : Here N m G b xs out p l e R s mid args below meth c A H0 Q L st S ad H locs cells slots ls)
    {raw : Instr} {len : Nat} (hd : decode (mCode m) (bpc m pc) = .ok (raw, len)) (hn : bpc m (pc + 1) = bpc m pc + len) (hlen : lenOf raw = 0 ∨ len = lenOf raw) (hz : rz m (bpc m pc) raw (.ifnull t) = true)
    (he : x_ifnull pc L st S (exec N F m) none = some out) : W p l e R s mid args below meth c H locs cells slots Q (F0 mid (bpc m pc) ls (st.map (toV ad))) := by
  obtain ⟨hm264, hx, hb, hml, hown, hts, hini, hfr, hlo, hGS, hA, hX, hbl, hbA, hTX, hN⟩ := hC
  unfold x_ifnull at he
  rcases st with _ | ⟨(x | (x | (x | x))), st⟩ <;> first | (cases he; done) | skip
  have hv := okh hH.2.2.1
  have hr := okt hH.2.2.1
  have k := go_st ih hH he hr
  rw [hn] at k
  unfold rz at hz
  dsimp only at hz
  split at hz
  · rcases hlen with h | h
    · cases h
    · rw [h] at hd k
      exact lv_ifnull hx hb hd k
  · cases hz

theorem s_icmp {cd : Jvm.ClassFile.Cond} {t : Int} (hC : Cx N m G b xs p R s mid args meth c A H0) (ih : IH N F m G b xs out p l e R s mid args below meth c A H0 Q) (hH : Here N m G b xs out p l e R s mid args below meth c A H0 Q L st S ad H locs cells slots ls)
    {raw : Instr} {len : Nat} (hd : decode (mCode m) (bpc m pc) = .ok (raw, len)) (hn : bpc m (pc + 1) = bpc m pc + len) (hlen : lenOf raw = 0 ∨ len = lenOf raw) (hz : rz m (bpc m pc) raw (.if_icmp cd t) = true)
    (he : x_icmp cd t.toNat pc L st S (exec N F m) none = some out) : W p l e R s mid args below meth c H locs cells slots Q (F0 mid (bpc m pc) ls (st.map (toV ad))) := by
  obtain ⟨hm264, hx, hb, hml, hown, hts, hini, hfr, hlo, hGS, hA, hX, hbl, hbA, hTX, hN⟩ := hC
  unfold x_icmp at he
  rcases st with _ | ⟨(y | (y | (y | y))), _ | ⟨(x | (x | (x | x))), st⟩⟩ <;> first | (cases he; done) | skip
  have hy := okh hH.2.2.1
  have hv := okh (okt hH.2.2.1)
  have hr := okt (okt hH.2.2.1)
  unfold rz at hz
  dsimp only at hz
  split at hz
  · obtain ⟨q1, q2⟩ := band_t hz
    have q1 := of_decide_eq_true q1
    have q2 := of_decide_eq_true q2
    subst q1
    rcases hlen with h | h
    · cases h
    rw [h] at hd hn
    have kT : exec N F m t.toNat L st S = some out → W p l e R s mid args below meth c H locs cells slots Q (F0 mid (bpc m t.toNat) ls (st.map (toV ad))) := fun he => go_st ih hH he hr
    have kF : exec N F m (pc + 1) L st S = some out → W p l e R s mid args below meth c H locs cells slots Q (F0 mid (bpc m pc + 3) ls (st.map (toV ad))) := fun he => by
      have k := go_st ih hH he hr
      rw [hn] at k
      exact k
    cases cd <;> dsimp only at he
    · by_cases h1 : x = y
      · rw [if_pos h1] at he
        exact lv_icmp_eq hx hb hd q2 (fun _ => kT he) (fun z => absurd ((eq32 hv hy).mpr h1) z)
      · rw [if_neg h1] at he
        exact lv_icmp_eq hx hb hd q2 (fun z => absurd ((eq32 hv hy).mp z) h1) (fun _ => kF he)
    · by_cases h1 : x = y
      · rw [if_pos h1] at he
        exact lv_icmp_ne hx hb hd q2 (fun z => absurd ((eq32 hv hy).mpr h1) z) (fun _ => kF he)
      · rw [if_neg h1] at he
        exact lv_icmp_ne hx hb hd q2 (fun _ => kT he) (fun z => absurd ((eq32 hv hy).mp z) h1)
    · by_cases h1 : x < y
      · rw [if_pos h1] at he
        exact lv_icmp_lt hx hb hd q2 (fun _ => kT he) (fun z => absurd ((lt32 hv hy).mpr h1) z)
      · rw [if_neg h1] at he
        exact lv_icmp_lt hx hb hd q2 (fun z => absurd ((lt32 hv hy).mp z) h1) (fun _ => kF he)
    · by_cases h1 : x < y
      · rw [if_pos h1] at he
        exact lv_icmp_ge hx hb hd q2 (fun z => absurd ((le32 hy hv).mp z) (by omega)) (fun _ => kF he)
      · rw [if_neg h1] at he
        exact lv_icmp_ge hx hb hd q2 (fun _ => kT he) (fun z => absurd ((le32 hy hv).mpr (by omega)) z)
    · by_cases h1 : y < x
      · rw [if_pos h1] at he
        exact lv_icmp_gt hx hb hd q2 (fun _ => kT he) (fun z => absurd ((lt32 hy hv).mpr h1) z)
      · rw [if_neg h1] at he
        exact lv_icmp_gt hx hb hd q2 (fun z => absurd ((lt32 hy hv).mp z) h1) (fun _ => kF he)
    · by_cases h1 : y < x
      · rw [if_pos h1] at he
        exact lv_icmp_le hx hb hd q2 (fun z => absurd ((le32 hv hy).mp z) (by omega)) (fun _ => kF he)
      · rw [if_neg h1] at he
        exact lv_icmp_le hx hb hd q2 (fun _ => kT he) (fun z => absurd ((le32 hv hy).mpr (by omega)) z)
  · cases hz

theorem s_ifc {cd : Jvm.ClassFile.Cond} {t : Int} (hC : Cx N m G b xs p R s mid args meth c A H0) (ih : IH N F m G b xs out p l e R s mid args below meth c A H0 Q) (hH : Here N m G b xs out p l e R s mid args below meth c A H0 Q L st S ad H locs cells slots ls)
    {raw : Instr} {len : Nat} (hd : decode (mCode m) (bpc m pc) = .ok (raw, len)) (hn : bpc m (pc + 1) = bpc m pc + len) (hlen : lenOf raw = 0 ∨ len = lenOf raw) (hz : rz m (bpc m pc) raw (.ifCond cd t) = true)
    (he : x_if cd t.toNat pc L st S (exec N F m) none = some out) : W p l e R s mid args below meth c H locs cells slots Q (F0 mid (bpc m pc) ls (st.map (toV ad))) := by
  obtain ⟨hm264, hx, hb, hml, hown, hts, hini, hfr, hlo, hGS, hA, hX, hbl, hbA, hTX, hN⟩ := hC
  unfold x_if at he
  rcases st with _ | ⟨(x | (x | (x | x))), st⟩ <;> first | (cases he; done) | skip
  have hv := okh hH.2.2.1
  have hr := okt hH.2.2.1
  unfold rz at hz
  dsimp only at hz
  split at hz
  · obtain ⟨q1, q2⟩ := band_t hz
    have q1 := of_decide_eq_true q1
    have q2 := of_decide_eq_true q2
    subst q1
    rcases hlen with h | h
    · cases h
    rw [h] at hd hn
    have kT : exec N F m t.toNat L st S = some out → W p l e R s mid args below meth c H locs cells slots Q (F0 mid (bpc m t.toNat) ls (st.map (toV ad))) := fun he => go_st ih hH he hr
    have kF : exec N F m (pc + 1) L st S = some out → W p l e R s mid args below meth c H locs cells slots Q (F0 mid (bpc m pc + 3) ls (st.map (toV ad))) := fun he => by
      have k := go_st ih hH he hr
      rw [hn] at k
      exact k
    cases cd <;> dsimp only at he
    · by_cases h1 : x = 0
      · rw [if_pos h1] at he
        exact lv_if_eq hx hb hd q2 (fun _ => kT he) (fun z => absurd ((eq32 hv in32_0).mpr h1) z)
      · rw [if_neg h1] at he
        exact lv_if_eq hx hb hd q2 (fun z => absurd ((eq32 hv in32_0).mp z) h1) (fun _ => kF he)
    · by_cases h1 : x = 0
      · rw [if_pos h1] at he
        exact lv_if_ne hx hb hd q2 (fun z => absurd ((eq32 hv in32_0).mpr h1) z) (fun _ => kF he)
      · rw [if_neg h1] at he
        exact lv_if_ne hx hb hd q2 (fun _ => kT he) (fun z => absurd ((eq32 hv in32_0).mp z) h1)
    · by_cases h1 : x < 0
      · rw [if_pos h1] at he
        exact lv_if_lt hx hb hd q2 (fun _ => kT he) (fun z => absurd ((lt32 hv in32_0).mpr h1) z)
      · rw [if_neg h1] at he
        exact lv_if_lt hx hb hd q2 (fun z => absurd ((lt32 hv in32_0).mp z) h1) (fun _ => kF he)
    · by_cases h1 : x < 0
      · rw [if_pos h1] at he
        exact lv_if_ge hx hb hd q2 (fun z => absurd ((le32 in32_0 hv).mp z) (by omega)) (fun _ => kF he)
      · rw [if_neg h1] at he
        exact lv_if_ge hx hb hd q2 (fun _ => kT he) (fun z => absurd ((le32 in32_0 hv).mpr (by omega)) z)
    · by_cases h1 : 0 < x
      · rw [if_pos h1] at he
        exact lv_if_gt hx hb hd q2 (fun _ => kT he) (fun z => absurd ((lt32 in32_0 hv).mpr h1) z)
      · rw [if_neg h1] at he
        exact lv_if_gt hx hb hd q2 (fun z => absurd ((lt32 in32_0 hv).mp z) h1) (fun _ => kF he)
    · by_cases h1 : 0 < x
      · rw [if_pos h1] at he
        exact lv_if_le hx hb hd q2 (fun z => absurd ((le32 hv in32_0).mp z) (by omega)) (fun _ => kF he)
      · rw [if_neg h1] at he
        exact lv_if_le hx hb hd q2 (fun _ => kT he) (fun z => absurd ((le32 hv in32_0).mpr (by omega)) z)
  · cases hz

end WALK
end
section
section WALK
variable {N m : Nat} {G : GT} {b : Nat} {xs : Nat → Int32} {out : Out}
variable {p : Program} {l : Launch} {e : Env} {R : Room} {s : State} {mid : MethodId} {args : Array Value} {below : List Frame} {meth : Method} {c : Code} {A : Nat → Prop} {H0 : Heap} {Q : State → Prop}
variable {F pc : Nat} {L st : List MV} {S : MS} {ad : AdT} {H : Heap} {locs : List Loc} {cells slots : Nat} {ls : Array Slot}
theorem nth_setn {α : Type} (l : List α) (i j : Nat) (v : α) : nth (setn l i v) j = if i = j then (if j < l.length then some v else none) else nth l j := by
  rw [nth_get, setn_set, nth_get, List.getElem?_set]
  by_cases h : i = j
  · subst h; simp
  · simp [h]
theorem setn_len {α : Type} (l : List α) (i : Nat) (v : α) : (setn l i v).length = l.length := by rw [setn_set, List.length_set]
/-- a list of locals that a store may write over -/
def Pre1 (L L1 : List MV) (i : Nat) : Prop := L1.length = L.length ∧ ∀ j w, nth L1 j = some w → w ≠ vX → j ≠ i → nth L j = some w ∧ (j + 1 = i → isJ w = false)
theorem pre1_plain {i : Nat} (h : ∀ v ∈ L, isJ v = false) : Pre1 L L i := ⟨rfl, fun _ _ hj _ _ => ⟨hj, fun _ => h _ (nth_mem _ _ _ hj)⟩⟩
theorem clr_c (L : List MV) (i : Nat) : clr L (i + 1) = L ∨ ∃ v, nth L i = some v ∧ isJ v = true ∧ clr L (i + 1) = setn L i vX := by
  rcases e1 : nth L i with _ | v
  · exact Or.inl (by simp only [clr, e1])
  · rcases e2 : isJ v with _ | _
    · exact Or.inl (by simp only [clr, e1, e2, cond_false])
    · exact Or.inr ⟨v, rfl, e2, by simp only [clr, e1, e2, cond_true]⟩
theorem clr_j {i : Nat} {v : MV} (h : nth L i = some v) (hc : clr L (i + 1) = L) : isJ v = false := by
  rcases e2 : isJ v with _ | _
  · rfl
  · exfalso
    have : clr L (i + 1) = setn L i vX := by simp only [clr, h, e2, cond_true]
    rw [hc] at this
    have h2 := nth_setn L i i vX
    rw [← this, h, if_pos rfl, if_pos (nth_lt _ _ _ h)] at h2
    cases h2
    cases e2
theorem clr_len (L : List MV) (i : Nat) : (clr L i).length = L.length := by
  rcases i with _ | i
  · rfl
  · rcases clr_c L i with h | ⟨v, -, -, h⟩
    · rw [h]
    · rw [h]; exact setn_len _ _ _
theorem pre1_clr (L : List MV) (i : Nat) : Pre1 L (clr L i) i := by
  refine ⟨clr_len L i, fun j w hj hw hne => ?_⟩
  rcases i with _ | i
  · exact ⟨hj, fun z => by omega⟩
  · rcases clr_c L i with h | ⟨v, e1, e2, h⟩
    · rw [h] at hj
      refine ⟨hj, fun z => ?_⟩
      rw [show j = i by omega] at hj
      exact clr_j hj h
    · rw [h, nth_setn] at hj
      by_cases q : i = j
      · rw [if_pos q] at hj
        split at hj
        · cases hj; exact absurd rfl hw
        · cases hj
      · rw [if_neg q] at hj
        exact ⟨hj, fun z => absurd (by omega) q⟩
theorem clr_mem {i : Nat} {v : MV} (h : v ∈ clr L i) : v = vX ∨ v ∈ L := by
  rcases i with _ | i
  · exact Or.inr h
  · rcases clr_c L i with h1 | ⟨w, -, -, h1⟩
    · rw [h1] at h; exact Or.inr h
    · rw [h1] at h; exact mem_setn _ _ _ _ h
theorem locs1 {L1 : List MV} {i : Nat} {v : MV} {ls' : Array Slot} (hl : Locs ad L ls) (hp : Pre1 L L1 i) (hi : i < L.length) (h : lv_has ls' L.length ((i, toV ad v) :: (lvOf ad L).filter (fun q => !(q.1 == i) && !(q.1 + 1 == i && q.2.category == 2)))) : Locs ad (setn L1 i v) ls' := by
  refine ⟨by rw [setn_len, hp.1]; exact h.1, h.2.1, fun j w hj hw => ?_⟩
  rw [nth_setn] at hj
  by_cases q : i = j
  · rw [if_pos q, hp.1] at hj
    subst q
    rw [if_pos hi] at hj
    cases hj
    exact h.2.2 (i, toV ad v) List.mem_cons_self
  · rw [if_neg q] at hj
    obtain ⟨h1, h2⟩ := hp.2 j w hj hw (Ne.symm q)
    refine h.2.2 (j, toV ad w) (List.mem_cons_of_mem _ (List.mem_filter.mpr ⟨lvOf_mem h1 hw, ?_⟩))
    have q1 : (j == i) = false := by simpa using Ne.symm q
    rcases e1 : (j + 1 == i) with _ | _
    · simp [q1, e1]
    · have z := h2 (by simpa using e1)
      have hc : (toV ad w).category = 1 := by rcases w with w | w | w | w <;> first | rfl | cases z
      simp [q1, hc]
theorem locs2 {i : Nat} {x : Int} {ls' : Array Slot} (hl : Locs ad L ls) (hi : i + 1 < L.length) (h : lv_has ls' L.length ((i, toV ad (vJ x)) :: (lvOf ad L).filter (fun q => !(q.1 == i) && (!(q.1 == i + 1) && !(q.1 + 1 == i && q.2.category == 2))))) : Locs ad (setn (setn (clr L i) i (vJ x)) (i + 1) vX) ls' := by
  refine ⟨by rw [setn_len, setn_len, clr_len]; exact h.1, h.2.1, fun j w hj hw => ?_⟩
  rw [nth_setn] at hj
  by_cases q0 : i + 1 = j
  · rw [if_pos q0] at hj
    split at hj
    · cases hj; exact absurd rfl hw
    · cases hj
  rw [if_neg q0, nth_setn] at hj
  by_cases q : i = j
  · rw [if_pos q, clr_len] at hj
    subst q
    rw [if_pos (by omega)] at hj
    cases hj
    exact h.2.2 (i, toV ad (vJ x)) List.mem_cons_self
  · rw [if_neg q] at hj
    obtain ⟨h1, h2⟩ := (pre1_clr L i).2 j w hj hw (Ne.symm q)
    refine h.2.2 (j, toV ad w) (List.mem_cons_of_mem _ (List.mem_filter.mpr ⟨lvOf_mem h1 hw, ?_⟩))
    have q1 : (j == i) = false := by simpa using Ne.symm q
    have q2 : (j == i + 1) = false := by simpa using Ne.symm q0
    rcases e1 : (j + 1 == i) with _ | _
    · simp [q1, q2, e1]
    · have z := h2 (by simpa using e1)
      have hc : (toV ad w).category = 1 := by rcases w with w | w | w | w <;> first | rfl | cases z
      simp [q1, q2, hc]
theorem memL {L1 : List MV} {i : Nat} {v : MV} (hL : ∀ v ∈ L, okV S.1 v) (h1 : ∀ v ∈ L1, v = vX ∨ v ∈ L) (hv : okV S.1 v) : ∀ u ∈ setn L1 i v, okV S.1 u := by
  intro u hu
  rcases mem_setn _ _ _ _ hu with h | h
  · rw [h]; exact hv
  · rcases h1 u h with h2 | h2
    · rw [h2]; trivial
    · exact hL u h2
theorem memJ {L1 : List MV} {i : Nat} {v : MV} (hL : mLong m = false → ∀ v ∈ L, isJ v = false) (h1 : ∀ v ∈ L1, v = vX ∨ v ∈ L) (hv : mLong m = false → isJ v = false) : mLong m = false → ∀ u ∈ setn L1 i v, isJ u = false := by
  intro h0 u hu
  rcases mem_setn _ _ _ _ hu with h | h
  · rw [h]; exact hv h0
  · rcases h1 u h with h2 | h2
    · rw [h2]; rfl
    · exact hL h0 u h2
end WALK
end
section
section WALK
variable {N m : Nat} {G : GT} {b : Nat} {xs : Nat → Int32} {out : Out}
variable {p : Program} {l : Launch} {e : Env} {R : Room} {s : State} {mid : MethodId} {args : Array Value} {below : List Frame} {meth : Method} {c : Code} {A : Nat → Prop} {H0 : Heap} {Q : State → Prop}
variable {F pc : Nat} {L st : List MV} {S : MS} {ad : AdT} {H : Heap} {locs : List Loc} {cells slots : Nat} {ls : Array Slot}

theorem s_istore {i : Nat} (hC : Cx N m G b xs p R s mid args meth c A H0) (ih : IH N F m G b xs out p l e R s mid args below meth c A H0 Q) (hH : Here N m G b xs out p l e R s mid args below meth c A H0 Q L st S ad H locs cells slots ls)
    {raw : Instr} {len : Nat} (hd : decode (mCode m) (bpc m pc) = .ok (raw, len)) (hn : bpc m (pc + 1) = bpc m pc + len) (hlen : lenOf raw = 0 ∨ len = lenOf raw) (hz : rz m (bpc m pc) raw (.istore i) = true)
    (he : x_istore i pc L st S (exec N F m) none = some out) : W p l e R s mid args below meth c H locs cells slots Q (F0 mid (bpc m pc) ls (st.map (toV ad))) := by
  obtain ⟨hm264, hx, hb, hml, hown, hts, hini, hfr, hlo, hGS, hA, hX, hbl, hbA, hTX, hN⟩ := hC
  unfold x_istore at he
  rcases st with _ | ⟨(x | (x | (x | x))), st⟩ <;> first | (cases he; done) | skip
  have hv := okh hH.2.2.1
  have hr := okt hH.2.2.1
  unfold rz at hz
  dsimp only at hz
  have hlong : mLong m = false := by
    rcases z : mLong m with _ | _
    · rfl
    · rw [z] at hz; cases hz
  rw [hlong, cond_false] at hz
  have hp : Pre1 L L i := pre1_plain (hH.2.2.2.1 hlong)
  have h1 : ∀ v ∈ L, v = vX ∨ v ∈ L := fun _ h => Or.inr h
  obtain ⟨hi0, hz⟩ := band_t hz
  have hi1 : i + 1 ≤ mMaxL m := Nat.le_of_ble_eq_true hi0
  have hi : i < L.length := by rw [hH.2.2.2.2.2.1]; omega
  have hlv := lvOf_has hH.2.2.2.2.1
  have kk : ∀ ls' : Array Slot, lv_has ls' L.length ((i, toV ad (vI x)) :: (lvOf ad L).filter (fun q => !(q.1 == i) && !(q.1 + 1 == i && q.2.category == 2))) → W p l e R s mid args below meth c H locs cells slots Q (F0 mid (bpc m (pc + 1)) ls' (st.map (toV ad))) := fun ls' h => go_on ih hH he (memL hH.2.1 h1 hv) hr (memJ hH.2.2.2.1 h1 (fun _ => rfl)) (locs1 hH.2.2.2.2.1 hp hi h) (by rw [setn_len, hp.1]; exact hH.2.2.2.2.2.1)
  rw [hn] at kk
  split at hz
  · have q := Nat.eq_of_beq_eq_true hz
    subst q
    rcases hlen with h | h
    · cases h
    · rw [h] at hd kk
      exact lv_istore hx hb hd hlv hi rfl kk
  · have q := Nat.eq_of_beq_eq_true hz
    rcases hlen with h | h
    · cases h
    · rw [h] at hd kk
      exact lv_istore_n hx hb hd q hlv hi rfl kk
  · cases hz

theorem s_fstore {i : Nat} (hC : Cx N m G b xs p R s mid args meth c A H0) (ih : IH N F m G b xs out p l e R s mid args below meth c A H0 Q) (hH : Here N m G b xs out p l e R s mid args below meth c A H0 Q L st S ad H locs cells slots ls)
    {raw : Instr} {len : Nat} (hd : decode (mCode m) (bpc m pc) = .ok (raw, len)) (hn : bpc m (pc + 1) = bpc m pc + len) (hlen : lenOf raw = 0 ∨ len = lenOf raw) (hz : rz m (bpc m pc) raw (.fstore i) = true)
    (he : x_istore i pc (clr L i) st S (exec N F m) none = some out) : W p l e R s mid args below meth c H locs cells slots Q (F0 mid (bpc m pc) ls (st.map (toV ad))) := by
  obtain ⟨hm264, hx, hb, hml, hown, hts, hini, hfr, hlo, hGS, hA, hX, hbl, hbA, hTX, hN⟩ := hC
  unfold x_istore at he
  rcases st with _ | ⟨(x | (x | (x | x))), st⟩ <;> first | (cases he; done) | skip
  have hv := okh hH.2.2.1
  have hr := okt hH.2.2.1
  unfold rz at hz
  dsimp only at hz
  have hp : Pre1 L (clr L i) i := pre1_clr L i
  have h1 : ∀ v ∈ clr L i, v = vX ∨ v ∈ L := fun _ h => clr_mem h
  obtain ⟨hi0, hz⟩ := band_t hz
  have hi1 : i + 1 ≤ mMaxL m := Nat.le_of_ble_eq_true hi0
  have hi : i < L.length := by rw [hH.2.2.2.2.2.1]; omega
  have hlv := lvOf_has hH.2.2.2.2.1
  have kk : ∀ ls' : Array Slot, lv_has ls' L.length ((i, toV ad (vI x)) :: (lvOf ad L).filter (fun q => !(q.1 == i) && !(q.1 + 1 == i && q.2.category == 2))) → W p l e R s mid args below meth c H locs cells slots Q (F0 mid (bpc m (pc + 1)) ls' (st.map (toV ad))) := fun ls' h => go_on ih hH he (memL hH.2.1 h1 hv) hr (memJ hH.2.2.2.1 h1 (fun _ => rfl)) (locs1 hH.2.2.2.2.1 hp hi h) (by rw [setn_len, hp.1]; exact hH.2.2.2.2.2.1)
  rw [hn] at kk
  split at hz
  · have q := Nat.eq_of_beq_eq_true hz
    subst q
    rcases hlen with h | h
    · cases h
    · rw [h] at hd kk
      exact lv_istore hx hb hd hlv hi rfl kk
  · have q := Nat.eq_of_beq_eq_true hz
    rcases hlen with h | h
    · cases h
    · rw [h] at hd kk
      exact lv_istore_n hx hb hd q hlv hi rfl kk
  · cases hz

theorem s_astore {i : Nat} (hC : Cx N m G b xs p R s mid args meth c A H0) (ih : IH N F m G b xs out p l e R s mid args below meth c A H0 Q) (hH : Here N m G b xs out p l e R s mid args below meth c A H0 Q L st S ad H locs cells slots ls)
    {raw : Instr} {len : Nat} (hd : decode (mCode m) (bpc m pc) = .ok (raw, len)) (hn : bpc m (pc + 1) = bpc m pc + len) (hlen : lenOf raw = 0 ∨ len = lenOf raw) (hz : rz m (bpc m pc) raw (.astore i) = true)
    (he : x_astore i pc L st S (exec N F m) none = some out) : W p l e R s mid args below meth c H locs cells slots Q (F0 mid (bpc m pc) ls (st.map (toV ad))) := by
  obtain ⟨hm264, hx, hb, hml, hown, hts, hini, hfr, hlo, hGS, hA, hX, hbl, hbA, hTX, hN⟩ := hC
  unfold x_astore at he
  rcases st with _ | ⟨(x | (x | (x | x))), st⟩ <;> first | (cases he; done) | skip
  have hv := okh hH.2.2.1
  have hr := okt hH.2.2.1
  unfold rz at hz
  dsimp only at hz
  have hlong : mLong m = false := by
    rcases z : mLong m with _ | _
    · rfl
    · rw [z] at hz; cases hz
  rw [hlong, cond_false] at hz
  have hp : Pre1 L L i := pre1_plain (hH.2.2.2.1 hlong)
  have h1 : ∀ v ∈ L, v = vX ∨ v ∈ L := fun _ h => Or.inr h
  obtain ⟨hi0, hz⟩ := band_t hz
  have hi1 : i + 1 ≤ mMaxL m := Nat.le_of_ble_eq_true hi0
  have hi : i < L.length := by rw [hH.2.2.2.2.2.1]; omega
  have hlv := lvOf_has hH.2.2.2.2.1
  have kk : ∀ ls' : Array Slot, lv_has ls' L.length ((i, toV ad (.inr (.inr (.inl x)))) :: (lvOf ad L).filter (fun q => !(q.1 == i) && !(q.1 + 1 == i && q.2.category == 2))) → W p l e R s mid args below meth c H locs cells slots Q (F0 mid (bpc m (pc + 1)) ls' (st.map (toV ad))) := fun ls' h => go_on ih hH he (memL hH.2.1 h1 hv) hr (memJ hH.2.2.2.1 h1 (fun _ => rfl)) (locs1 hH.2.2.2.2.1 hp hi h) (by rw [setn_len, hp.1]; exact hH.2.2.2.2.2.1)
  rw [hn] at kk
  split at hz
  · have q := Nat.eq_of_beq_eq_true hz
    subst q
    rcases hlen with h | h
    · cases h
    · rw [h] at hd kk
      exact lv_astore hx hb hd hlv hi rfl kk
  · have q := Nat.eq_of_beq_eq_true hz
    rcases hlen with h | h
    · cases h
    · rw [h] at hd kk
      exact lv_astore_n hx hb hd q hlv hi rfl kk
  · cases hz

theorem s_dstore {i : Nat} (hC : Cx N m G b xs p R s mid args meth c A H0) (ih : IH N F m G b xs out p l e R s mid args below meth c A H0 Q) (hH : Here N m G b xs out p l e R s mid args below meth c A H0 Q L st S ad H locs cells slots ls)
    {raw : Instr} {len : Nat} (hd : decode (mCode m) (bpc m pc) = .ok (raw, len)) (hn : bpc m (pc + 1) = bpc m pc + len) (hlen : lenOf raw = 0 ∨ len = lenOf raw) (hz : rz m (bpc m pc) raw (.dstore i) = true)
    (he : x_astore i pc (clr L i) st S (exec N F m) none = some out) : W p l e R s mid args below meth c H locs cells slots Q (F0 mid (bpc m pc) ls (st.map (toV ad))) := by
  obtain ⟨hm264, hx, hb, hml, hown, hts, hini, hfr, hlo, hGS, hA, hX, hbl, hbA, hTX, hN⟩ := hC
  unfold x_astore at he
  rcases st with _ | ⟨(x | (x | (x | x))), st⟩ <;> first | (cases he; done) | skip
  have hv := okh hH.2.2.1
  have hr := okt hH.2.2.1
  unfold rz at hz
  dsimp only at hz
  have hp : Pre1 L (clr L i) i := pre1_clr L i
  have h1 : ∀ v ∈ clr L i, v = vX ∨ v ∈ L := fun _ h => clr_mem h
  obtain ⟨hi0, hz⟩ := band_t hz
  have hi1 : i + 1 ≤ mMaxL m := Nat.le_of_ble_eq_true hi0
  have hi : i < L.length := by rw [hH.2.2.2.2.2.1]; omega
  have hlv := lvOf_has hH.2.2.2.2.1
  have kk : ∀ ls' : Array Slot, lv_has ls' L.length ((i, toV ad (.inr (.inr (.inl x)))) :: (lvOf ad L).filter (fun q => !(q.1 == i) && !(q.1 + 1 == i && q.2.category == 2))) → W p l e R s mid args below meth c H locs cells slots Q (F0 mid (bpc m (pc + 1)) ls' (st.map (toV ad))) := fun ls' h => go_on ih hH he (memL hH.2.1 h1 hv) hr (memJ hH.2.2.2.1 h1 (fun _ => rfl)) (locs1 hH.2.2.2.2.1 hp hi h) (by rw [setn_len, hp.1]; exact hH.2.2.2.2.2.1)
  rw [hn] at kk
  split at hz
  · have q := Nat.eq_of_beq_eq_true hz
    subst q
    rcases hlen with h | h
    · cases h
    · rw [h] at hd kk
      exact lv_astore hx hb hd hlv hi rfl kk
  · have q := Nat.eq_of_beq_eq_true hz
    rcases hlen with h | h
    · cases h
    · rw [h] at hd kk
      exact lv_astore_n hx hb hd q hlv hi rfl kk
  · cases hz

theorem s_lstore {i : Nat} (hC : Cx N m G b xs p R s mid args meth c A H0) (ih : IH N F m G b xs out p l e R s mid args below meth c A H0 Q) (hH : Here N m G b xs out p l e R s mid args below meth c A H0 Q L st S ad H locs cells slots ls)
    {raw : Instr} {len : Nat} (hd : decode (mCode m) (bpc m pc) = .ok (raw, len)) (hn : bpc m (pc + 1) = bpc m pc + len) (hlen : lenOf raw = 0 ∨ len = lenOf raw) (hz : rz m (bpc m pc) raw (.lstore i) = true)
    (he : x_lstore i pc L st S (exec N F m) none = some out) : W p l e R s mid args below meth c H locs cells slots Q (F0 mid (bpc m pc) ls (st.map (toV ad))) := by
  obtain ⟨hm264, hx, hb, hml, hown, hts, hini, hfr, hlo, hGS, hA, hX, hbl, hbA, hTX, hN⟩ := hC
  unfold x_lstore at he
  rcases st with _ | ⟨(x | (x | (x | x))), st⟩ <;> first | (cases he; done) | skip
  have hv := okh hH.2.2.1
  have hr := okt hH.2.2.1
  unfold rz at hz
  dsimp only at hz
  obtain ⟨hi0, hz⟩ := band_t hz
  obtain ⟨hlong, hi0⟩ := band_t hi0
  have hi1 : i + 1 + 1 ≤ mMaxL m := Nat.le_of_ble_eq_true hi0
  have hi : i + 1 < L.length := by rw [hH.2.2.2.2.2.1]; omega
  have hlv := lvOf_has hH.2.2.2.2.1
  have kk : ∀ ls' : Array Slot, lv_has ls' L.length ((i, toV ad (vJ x)) :: (lvOf ad L).filter (fun q => !(q.1 == i) && (!(q.1 == i + 1) && !(q.1 + 1 == i && q.2.category == 2)))) → W p l e R s mid args below meth c H locs cells slots Q (F0 mid (bpc m (pc + 1)) ls' (st.map (toV ad))) := fun ls' h => by
    refine go_on ih hH he ?_ hr (fun z => by rw [hlong] at z; cases z) (locs2 hH.2.2.2.2.1 hi h) (by rw [setn_len, setn_len, clr_len]; exact hH.2.2.2.2.2.1)
    intro u hu
    rcases mem_setn _ _ _ _ hu with h2 | h2
    · rw [h2]; trivial
    · exact memL hH.2.1 (fun _ h => clr_mem h) hv u h2
  rw [hn] at kk
  split at hz
  · have q := Nat.eq_of_beq_eq_true hz
    subst q
    rcases hlen with h | h
    · cases h
    · rw [h] at hd kk
      exact lv_lstore hx hb hd hlv hi rfl kk
  · have q := Nat.eq_of_beq_eq_true hz
    rcases hlen with h | h
    · cases h
    · rw [h] at hd kk
      exact lv_lstore_n hx hb hd q hlv hi rfl kk
  · cases hz

theorem s_iinc {i : Nat} {k : Int} (hC : Cx N m G b xs p R s mid args meth c A H0) (ih : IH N F m G b xs out p l e R s mid args below meth c A H0 Q) (hH : Here N m G b xs out p l e R s mid args below meth c A H0 Q L st S ad H locs cells slots ls)
    {raw : Instr} {len : Nat} (hd : decode (mCode m) (bpc m pc) = .ok (raw, len)) (hn : bpc m (pc + 1) = bpc m pc + len) (hlen : lenOf raw = 0 ∨ len = lenOf raw) (hz : rz m (bpc m pc) raw (.iinc i k) = true)
    (he : x_iinc i k pc L st S (exec N F m) none = some out) : W p l e R s mid args below meth c H locs cells slots Q (F0 mid (bpc m pc) ls (st.map (toV ad))) := by
  obtain ⟨hm264, hx, hb, hml, hown, hts, hini, hfr, hlo, hGS, hA, hX, hbl, hbA, hTX, hN⟩ := hC
  unfold x_iinc at he
  rcases e1 : nth L i with _ | (x | (x | (x | x))) <;> rw [e1] at he <;> first | (cases he; done) | skip
  have hi : i < L.length := nth_lt _ _ _ e1
  have hlv := lvOf_has hH.2.2.2.2.1
  obtain ⟨j, hj⟩ := List.getElem?_of_mem (lvOf_mem (ad := ad) e1 (by intro z; cases z))
  have hJn : Pre1 L L i := by
    refine ⟨rfl, fun j w h1 h2 h3 => ⟨h1, fun h4 => ?_⟩⟩
    rcases z : isJ w with _ | _
    · rfl
    · exfalso
      have hw := hH.2.2.2.2.1.2.2 j w h1 h2
      have hc : (toV ad w).category = 2 := by rcases w with w | w | w | w <;> first | rfl | cases z
      have h5 := hH.2.2.2.2.1.2.1.1 j _ hw hc
      rw [h4] at h5
      have h6 := hH.2.2.2.2.1.2.2 i _ e1 (by intro z; cases z)
      rw [h5] at h6
      cases h6
  have kk : ∀ ls' : Array Slot, lv_has ls' L.length ((i, toV ad (vI (w32 (x + k)))) :: (lvOf ad L).filter (fun q => !(q.1 == i) && !(q.1 + 1 == i && q.2.category == 2))) → W p l e R s mid args below meth c H locs cells slots Q (F0 mid (bpc m (pc + 1)) ls' (st.map (toV ad))) := fun ls' h => go_on ih hH he (memL hH.2.1 (fun _ h => Or.inr h) (w32_in _)) hH.2.2.1 (memJ hH.2.2.2.1 (fun _ h => Or.inr h) (fun _ => rfl)) (locs1 hH.2.2.2.2.1 hJn hi h) (by rw [setn_len]; exact hH.2.2.2.2.2.1)
  rw [hn] at kk
  unfold rz at hz
  dsimp only at hz
  split at hz
  · obtain ⟨q1, q2⟩ := band_t hz
    have q1 := Nat.eq_of_beq_eq_true q1
    have q2 := of_decide_eq_true q2
    subst q1
    subst q2
    rcases hlen with h | h
    · cases h
    · rw [h] at hd kk
      exact lv_iinc hx hb hd hlv hj (add32 x _).symm hi rfl kk
  · cases hz

theorem s_lcmp (hC : Cx N m G b xs p R s mid args meth c A H0) (ih : IH N F m G b xs out p l e R s mid args below meth c A H0 Q) (hH : Here N m G b xs out p l e R s mid args below meth c A H0 Q L st S ad H locs cells slots ls)
    {raw : Instr} {len : Nat} (hd : decode (mCode m) (bpc m pc) = .ok (raw, len)) (hn : bpc m (pc + 1) = bpc m pc + len) (hlen : lenOf raw = 0 ∨ len = lenOf raw) (hz : rz m (bpc m pc) raw (.lcmp) = true)
    (he : x_lcmp pc L st S (exec N F m) none = some out) : W p l e R s mid args below meth c H locs cells slots Q (F0 mid (bpc m pc) ls (st.map (toV ad))) := by
  obtain ⟨hm264, hx, hb, hml, hown, hts, hini, hfr, hlo, hGS, hA, hX, hbl, hbA, hTX, hN⟩ := hC
  unfold x_lcmp at he
  rcases st with _ | ⟨(y | (y | (y | y))), _ | ⟨(x | (x | (x | x))), st⟩⟩ <;> first | (cases he; done) | skip
  have hy := okh hH.2.2.1
  have hv := okh (okt hH.2.2.1)
  have hr := okt (okt hH.2.2.1)
  dsimp only at he
  unfold rz at hz
  dsimp only at hz
  split at hz
  · rcases hlen with h | h
    · cases h
    rw [h] at hd hn
    refine W.lcmp hx hb hd ?_
    unfold lg_cmp
    by_cases h1 : x < y
    · rw [if_pos h1] at he
      have k := go_st ih hH he (ok1 (show okV S.1 (vI (-1)) from by unfold okV in32; omega) hr)
      rw [hn] at k
      rw [if_neg (fun z => by have := (lt64 hy hv).mp z; omega), if_neg (fun z => by have := (eq64 hv hy).mp z; omega)]
      exact k
    rw [if_neg h1] at he
    by_cases h2 : x = y
    · rw [if_pos h2] at he
      have k := go_st ih hH he (ok1 (show okV S.1 (vI 0) from in32_0) hr)
      rw [hn] at k
      rw [if_neg (fun z => by have := (lt64 hy hv).mp z; omega), if_pos ((eq64 hv hy).mpr h2)]
      exact k
    · rw [if_neg h2] at he
      have k := go_st ih hH he (ok1 (show okV S.1 (vI 1) from by unfold okV in32; omega) hr)
      rw [hn] at k
      rw [if_pos ((lt64 hy hv).mpr (by omega))]
      exact k
  · cases hz

end WALK
end
section
section WALK
variable {N m : Nat} {G : GT} {b : Nat} {xs : Nat → Int32} {out : Out}
variable {p : Program} {l : Launch} {e : Env} {R : Room} {s : State} {mid : MethodId} {args : Array Value} {below : List Frame} {meth : Method} {c : Code} {A : Nat → Prop} {H0 : Heap} {Q : State → Prop}
variable {F pc : Nat} {L st : List MV} {S : MS} {ad : AdT} {H : Heap} {locs : List Loc} {cells slots : Nat} {ls : Array Slot}
theorem x_sw_eq {β : Type} (L st : List MV) (S : MS) (K : KT β) (d : Nat) (a : Int) : ∀ (ts : List Int) (lo : Int),
    (∃ (j : Nat) (t : Int), ts[j]? = some t ∧ a = lo + (j : Int) ∧ x_sw L st S K d a lo ts = K t.toNat L st S) ∨ ((a < lo ∨ lo + (ts.length : Int) ≤ a) ∧ x_sw L st S K d a lo ts = K d L st S)
  | [], lo => Or.inr ⟨by simp; omega, rfl⟩
  | t :: ts, lo => by
    unfold x_sw
    by_cases h : a = lo
    · exact Or.inl ⟨0, t, rfl, by simpa using h, by rw [if_pos h]⟩
    · rw [if_neg h]
      rcases x_sw_eq L st S K d a ts (lo + 1) with ⟨j, t', h1, h2, h3⟩ | ⟨h1, h2⟩
      · exact Or.inl ⟨j + 1, t', by simpa using h1, by push_cast; omega, h3⟩
      · refine Or.inr ⟨?_, h2⟩
        simp only [List.length_cons]
        push_cast
        omega
theorem offsOk_at {mm pp : Nat} : ∀ (os ts : List Int) (j : Nat) (t : Int), offsOk mm pp os ts = true → ts[j]? = some t → ∃ o, os[j]? = some o ∧ goOk mm pp o t = true
  | [], [], j, t, _, h => by simp at h
  | [], _ :: _, j, t, h, _ => by simp [offsOk] at h
  | _ :: _, [], j, t, h, _ => by simp [offsOk] at h
  | o :: os, u :: ts, 0, t, h, h1 => by
    simp only [List.getElem?_cons_zero, Option.some.injEq] at h1
    subst h1
    exact ⟨o, rfl, (band_t h).1⟩
  | o :: os, u :: ts, j + 1, t, h, h1 => by
    obtain ⟨x, h2, h3⟩ := offsOk_at os ts j t (band_t h).2 (by simpa using h1)
    exact ⟨x, by simpa using h2, h3⟩
theorem s_switch {d lo hi : Int} {ts : Array Int} (hC : Cx N m G b xs p R s mid args meth c A H0) (ih : IH N F m G b xs out p l e R s mid args below meth c A H0 Q) (hH : Here N m G b xs out p l e R s mid args below meth c A H0 Q L st S ad H locs cells slots ls)
    {raw : Instr} {len : Nat} (hd : decode (mCode m) (bpc m pc) = .ok (raw, len)) (hz : rz m (bpc m pc) raw (.tableswitch d lo hi ts) = true)
    (he : x_switch d.toNat lo ts.toList L st S (exec N F m) none = some out) : W p l e R s mid args below meth c H locs cells slots Q (F0 mid (bpc m pc) ls (st.map (toV ad))) := by
  obtain ⟨hm264, hx, hb, hml, hown, hts, hini, hfr, hlo, hGS, hA, hX, hbl, hbA, hTX, hN⟩ := hC
  unfold x_switch at he
  rcases st with _ | ⟨(x | (x | (x | x))), st⟩ <;> first | (cases he; done) | skip
  have hv := okh hH.2.2.1
  have hr := okt hH.2.2.1
  unfold rz at hz
  dsimp only at hz he
  split at hz
  · rename_i d2 lo2 hi2 offs
    obtain ⟨h1, h2⟩ := band_t hz
    obtain ⟨h3, h4⟩ := band_t h2
    obtain ⟨e1, e2, e3, e4, e5⟩ := of_decide_eq_true h1
    subst e1
    subst e2
    have hxi : (Int32.ofInt x).toInt = x := toInt32_in hv
    rcases x_sw_eq L st S (exec N F m) d.toNat x ts.toList lo with ⟨j, t, a1, a2, a3⟩ | ⟨a1, a3⟩
    · rw [a3] at he
      obtain ⟨o, b1, b2⟩ := offsOk_at _ _ _ _ h4 a1
      have hj : j < ts.toList.length := (List.getElem?_eq_some_iff.mp a1).1
      refine lv_tableIn hx hb hd (by rw [hxi]; omega) (by rw [hxi]; omega) (off := o) ?_ (of_decide_eq_true b2) (go_st ih hH he hr)
      rw [hxi, show (x - lo).toNat = j by omega, ← Array.getElem?_toList]
      exact b1
    · rw [a3] at he
      exact lv_tableOut hx hb hd (by rw [hxi]; omega) (of_decide_eq_true h3) (go_st ih hH he hr)
  · cases hz
/-- the world after a write: all but the cell's contents is as it was -/
theorem wd_sup {k i j : Nat} {v : Int} {H1 : Heap} {locs1 : List Loc} {a : Nat} (hW : Wd N G b xs A H0 S ad H locs) (ha : a < S.1) (ho : nth ords a = some (k, i)) (hv : in64 v) (hv2 : isL k j = false → in32 v)
    (hP : va_P G.1 cls0 ((wl G ad S).set a (ad k i, ent G ad (S.1, S.2.1, sup S.2.2 k i j v) (k, i))) H1) (hD : va_D A ((wl G ad S).set a (ad k i, ent G ad (S.1, S.2.1, sup S.2.2 k i j v) (k, i)))) (hS : va_S A H0 H1 locs1) : Wd N G b xs A H0 (S.1, S.2.1, sup S.2.2 k i j v) ad H1 locs1 := by
  obtain ⟨-, -, -, h4, h5, h6, h7, h8⟩ := hW
  have e := wl_set (G := G) (ad := ad) (S' := (S.1, S.2.1, sup S.2.2 k i j v)) ha ho rfl (fun q' hq => ent_sup hq)
  rw [e] at hP hD
  refine ⟨hP, hD, hS, h4, h5, fun k' i' j' => ?_, h7, fun j' hj => ?_⟩
  · show in64 (sup S.2.2 k i j v k' i' j') ∧ (isL k' j' = false → in32 (sup S.2.2 k i j v k' i' j'))
    unfold sup
    split
    · rename_i hq
      obtain ⟨rfl, rfl, rfl⟩ := hq
      exact ⟨hv, hv2⟩
    · exact h6 k' i' j'
  · have hk : k ≠ 999 := by have := (ords_kd ho).1; dsimp only at this; omega
    show Int32.ofInt (sup S.2.2 k i j v 999 0 j') = xs j'
    unfold sup
    rw [if_neg (fun z => hk z.1.symm)]
    exact h8 j' hj
theorem go_sup {pc' : Nat} {st' : List MV} {k i j : Nat} {v : Int} {H1 : Heap} {locs1 : List Loc} (ih : IH N F m G b xs out p l e R s mid args below meth c A H0 Q) (hH : Here N m G b xs out p l e R s mid args below meth c A H0 Q L st S ad H locs cells slots ls)
    (hx : exec N F m pc' L st' (S.1, S.2.1, sup S.2.2 k i j v) = some out) (hst : ∀ v ∈ st', okV S.1 v) (hW : Wd N G b xs A H0 (S.1, S.2.1, sup S.2.2 k i j v) ad H1 locs1) : W p l e R s mid args below meth c H1 locs1 cells slots Q (F0 mid (bpc m pc') ls (st'.map (toV ad))) :=
  ih pc' L st' (S.1, S.2.1, sup S.2.2 k i j v) ad H1 locs1 cells slots ls hx ⟨hW, hH.2.1, hst, hH.2.2.2.1, hH.2.2.2.2.1, hH.2.2.2.2.2.1, hH.2.2.2.2.2.2.1, hH.2.2.2.2.2.2.2.1, hH.2.2.2.2.2.2.2.2⟩
theorem ent_1 {k i : Nat} (h : kTag k = 1) : ent G ad S (k, i) = .inl (G.2.1 1, kLen k, .inl (fun j => Int32.ofInt (S.2.2 k i j))) := by
  unfold ent; simp only [h]
theorem ent_2 {k i : Nat} (h : kTag k = 2) : ent G ad S (k, i) = .inl (G.2.1 2, kLen k, .inl (fun j => Int32.ofInt (S.2.2 k i j))) := by
  unfold ent; simp only [h]
theorem ent_3 {k i : Nat} (h : kTag k = 3) : ent G ad S (k, i) = .inl (G.2.1 3, kLen k, .inr (.inl (fun j => Int64.ofInt (S.2.2 k i j)))) := by
  unfold ent; simp only [h]
theorem ent_0 {k i : Nat} (h : kTag k = 0) : ent G ad S (k, i) = .inr (kCls k, (List.range (nF (kCls k))).map (fval ad S k i)) := by
  unfold ent; simp only [h]
theorem tag999 : kTag 999 = 4 := rfl
theorem tag1000 : kTag 1000 = 9 := rfl
/-- a row that isn't the script is a cell -/
theorem vld_row {n k i t : Nat} (h : okV n (.inr (.inr (.inl (k, i))))) (ht : kTag k = t) (h4 : t ≠ 4) (h9 : t ≠ 9) : vld n (k, i) := by
  rcases h with h | h | ⟨h, -⟩
  · exact h
  · cases h; exact absurd (ht.symm.trans tag999) h4
  · dsimp only at h; subst h; exact absurd (ht.symm.trans tag1000) h9
theorem kLenN_row {a k i : Nat} (ho : nth ords a = some (k, i)) : kLenN N k = (kLen k : Int) := by
  obtain ⟨h1, -, -, h2, -⟩ := ords_kd ho
  dsimp only at h1 h2
  unfold kLenN
  have hz : Nat.beq k 999 = false := by
    rcases z : Nat.beq k 999 with _ | _
    · rfl
    · have := Nat.eq_of_beq_eq_true z
      omega
  rw [hz]
  exact h2
theorem isL_1 {k j : Nat} (h : kTag k = 1 ∨ kTag k = 2 ∨ kTag k = 4) : isL k j = false := by
  unfold isL
  rcases h with h | h | h <;> rw [h] <;> rfl
end WALK
end
section
section WALK
variable {N m : Nat} {G : GT} {b : Nat} {xs : Nat → Int32} {out : Out}
variable {p : Program} {l : Launch} {e : Env} {R : Room} {s : State} {mid : MethodId} {args : Array Value} {below : List Frame} {meth : Method} {c : Code} {A : Nat → Prop} {H0 : Heap} {Q : State → Prop}
variable {F pc : Nat} {L st : List MV} {S : MS} {ad : AdT} {H : Heap} {locs : List Loc} {cells slots : Nat} {ls : Array Slot}

theorem s_alen (hC : Cx N m G b xs p R s mid args meth c A H0) (ih : IH N F m G b xs out p l e R s mid args below meth c A H0 Q) (hH : Here N m G b xs out p l e R s mid args below meth c A H0 Q L st S ad H locs cells slots ls)
    {raw : Instr} {len : Nat} (hd : decode (mCode m) (bpc m pc) = .ok (raw, len)) (hn : bpc m (pc + 1) = bpc m pc + len) (hlen : lenOf raw = 0 ∨ len = lenOf raw) (hz : rz m (bpc m pc) raw (.arraylength) = true)
    (he : x_alen N pc L st S (exec N F m) none = some out) : W p l e R s mid args below meth c H locs cells slots Q (F0 mid (bpc m pc) ls (st.map (toV ad))) := by
  obtain ⟨hm264, hx, hb, hml, hown, hts, hini, hfr, hlo, hGS, hA, hX, hbl, hbA, hTX, hN⟩ := hC
  unfold x_alen at he
  rcases st with _ | ⟨(x | (x | (⟨k, i⟩ | x))), st⟩ <;> first | (cases he; done) | skip
  have hv := okh hH.2.2.1
  have hr := okt hH.2.2.1
  dsimp only at he
  have hk0 : (kTag k = 1 ∨ kTag k = 2 ∨ kTag k = 3 ∨ kTag k = 4) ∧ exec N F m (pc + 1) L (vI (kLenN N k) :: st) S = some out := by
    rcases z : kTag k with _ | _ | _ | _ | _ | _ <;> rw [z] at he <;> first | (cases he; done) | exact ⟨by omega, he⟩
  obtain ⟨hk, he⟩ := hk0
  unfold rz at hz
  dsimp only at hz
  split at hz
  · rcases hlen with h | h
    · cases h
    rw [h] at hd hn
    by_cases h4 : kTag k = 4
    · have hq : (k, i) = (999, 0) := by
        rcases hv with hv | hv | ⟨hv, -⟩
        · obtain ⟨a, -, ho⟩ := hv
          have := (ords_kd ho).2.2.1
          dsimp only at this
          omega
        · exact hv
        · dsimp only at hv; subst hv; exact absurd (tag1000.symm.trans h4) (by decide)
      cases hq
      have e0 : kLenN N 999 = (N : Int) := rfl
      rw [e0] at he
      have k := go_st ih hH he (ok1 (show okV S.1 (vI (N : Int)) from by unfold okV in32; omega) hr)
      rw [hn] at k
      have hab : ad 999 0 = b := hH.1.2.2.2.1
      show W p l e R s mid args below meth c H locs cells slots Q (F0 mid (bpc m pc) ls (.ref (ad 999 0) :: st.map (toV ad)))
      rw [hab]
      exact va_slen hx hb hX hbl hbA hH.1.2.2.1 hd k
    · obtain ⟨a, ha, ho⟩ := vld_row hv rfl h4 (by omega)
      have e0 := kLenN_row (N := N) ho
      have e1 := ords_kd ho
      rw [e0] at he
      have k0 := go_st ih hH he (ok1 (show okV S.1 (vI (kLen k : Int)) from by unfold okV in32; have := e1.2.2.2.2.1; dsimp only at this; omega) hr)
      rw [hn] at k0
      have hw := wl_at (G := G) (ad := ad) ha ho
      rcases hk with h1 | h1 | h1 | h1
      · rw [ent_1 h1] at hw
        exact va_alen hx hb hGS.1 hH.1.1 a 0 hw rfl rfl hd k0
      · rw [ent_2 h1] at hw
        exact va_alen hx hb hGS.1 hH.1.1 a 1 hw rfl rfl hd k0
      · rw [ent_3 h1] at hw
        exact va_alen hx hb hGS.1 hH.1.1 a 2 hw rfl rfl hd k0
      · exact absurd h1 h4
  · cases hz

theorem s_iald (hC : Cx N m G b xs p R s mid args meth c A H0) (ih : IH N F m G b xs out p l e R s mid args below meth c A H0 Q) (hH : Here N m G b xs out p l e R s mid args below meth c A H0 Q L st S ad H locs cells slots ls)
    {raw : Instr} {len : Nat} (hd : decode (mCode m) (bpc m pc) = .ok (raw, len)) (hn : bpc m (pc + 1) = bpc m pc + len) (hlen : lenOf raw = 0 ∨ len = lenOf raw) (hz : rz m (bpc m pc) raw (.iaload) = true)
    (he : x_iald N pc L st S (exec N F m) none = some out) : W p l e R s mid args below meth c H locs cells slots Q (F0 mid (bpc m pc) ls (st.map (toV ad))) := by
  obtain ⟨hm264, hx, hb, hml, hown, hts, hini, hfr, hlo, hGS, hA, hX, hbl, hbA, hTX, hN⟩ := hC
  unfold x_iald at he
  rcases st with _ | ⟨(j | (j | (j | j))), _ | ⟨(y | (y | (⟨k, i⟩ | y))), st⟩⟩ <;> first | (cases he; done) | skip
  have hy := okh hH.2.2.1
  have hv := okh (okt hH.2.2.1)
  have hr := okt (okt hH.2.2.1)
  dsimp only at he
  have hk0 : (kTag k = 1 ∨ kTag k = 4) ∧ (if j < 0 then none else if j < kLenN N k then exec N F m (pc + 1) L (vI (S.2.2 k i j.toNat) :: st) S else none) = some out := by
    rcases z : kTag k with _ | _ | _ | _ | _ | _ <;> rw [z] at he <;> first | (cases he; done) | exact ⟨by omega, he⟩
  obtain ⟨hk, he⟩ := hk0
  by_cases h0 : j < 0
  · rw [if_pos h0] at he; cases he
  rw [if_neg h0] at he
  have h1 : j < kLenN N k := by
    by_cases h1 : j < kLenN N k
    · exact h1
    · rw [if_neg h1] at he; cases he
  rw [if_pos h1] at he
  unfold rz at hz
  dsimp only at hz
  split at hz
  · rcases hlen with h | h
    · cases h
    rw [h] at hd hn
    by_cases h4 : kTag k = 4
    · have hq : (k, i) = (999, 0) := by
        rcases hv with hv | hv | ⟨hv, -⟩
        · obtain ⟨a, -, ho⟩ := hv
          have := (ords_kd ho).2.2.1
          dsimp only at this
          omega
        · exact hv
        · dsimp only at hv; subst hv; exact absurd (tag1000.symm.trans h4) (by decide)
      cases hq
      have e0 : kLenN N 999 = (N : Int) := rfl
      rw [e0] at h1
      have hok := (hH.1.2.2.2.2.2.1 999 0 j.toNat).2 (isL_1 (Or.inr (Or.inr h4)))
      have k := go_st ih hH he (ok1 (show okV S.1 (vI (S.2.2 999 0 j.toNat)) from hok) hr)
      rw [hn] at k
      have hab : ad 999 0 = b := hH.1.2.2.2.1
      show W p l e R s mid args below meth c H locs cells slots Q (F0 mid (bpc m pc) ls (.int (Int32.ofInt j) :: .ref (ad 999 0) :: st.map (toV ad)))
      rw [hab]
      refine va_sld hx hb hX hbl hbA hH.1.2.2.1 (vpinI h0 h1 hy) hd ?_
      rw [clampI (by omega) hy, ← hH.1.2.2.2.2.2.2.2 j.toNat (by omega)]
      exact k
    have hk : kTag k = 1 := by omega
    obtain ⟨a, ha, ho⟩ := vld_row hv hk (by decide) (by decide)
    rw [kLenN_row (N := N) ho] at h1
    have hok := (hH.1.2.2.2.2.2.1 k i j.toNat).2 (isL_1 (Or.inl hk))
    have k0 := go_st ih hH he (ok1 (show okV S.1 (vI (S.2.2 k i j.toNat)) from hok) hr)
    rw [hn] at k0
    have hw := wl_at (G := G) (ad := ad) ha ho
    rw [ent_1 hk] at hw
    refine va_iald hx hb hGS.1 hH.1.1 a 0 hw rfl (vpinI h0 h1 hy) hd ?_
    rw [clampI (by omega) hy]
    exact k0
  · cases hz

theorem s_bald (hC : Cx N m G b xs p R s mid args meth c A H0) (ih : IH N F m G b xs out p l e R s mid args below meth c A H0 Q) (hH : Here N m G b xs out p l e R s mid args below meth c A H0 Q L st S ad H locs cells slots ls)
    {raw : Instr} {len : Nat} (hd : decode (mCode m) (bpc m pc) = .ok (raw, len)) (hn : bpc m (pc + 1) = bpc m pc + len) (hlen : lenOf raw = 0 ∨ len = lenOf raw) (hz : rz m (bpc m pc) raw (.baload) = true)
    (he : x_bald N pc L st S (exec N F m) none = some out) : W p l e R s mid args below meth c H locs cells slots Q (F0 mid (bpc m pc) ls (st.map (toV ad))) := by
  obtain ⟨hm264, hx, hb, hml, hown, hts, hini, hfr, hlo, hGS, hA, hX, hbl, hbA, hTX, hN⟩ := hC
  unfold x_bald at he
  rcases st with _ | ⟨(j | (j | (j | j))), _ | ⟨(y | (y | (⟨k, i⟩ | y))), st⟩⟩ <;> first | (cases he; done) | skip
  have hy := okh hH.2.2.1
  have hv := okh (okt hH.2.2.1)
  have hr := okt (okt hH.2.2.1)
  dsimp only at he
  have hk0 : (kTag k = 2) ∧ (if j < 0 then none else if j < kLenN N k then exec N F m (pc + 1) L (vI (S.2.2 k i j.toNat) :: st) S else none) = some out := by
    rcases z : kTag k with _ | _ | _ | _ | _ | _ <;> rw [z] at he <;> first | (cases he; done) | exact ⟨by omega, he⟩
  obtain ⟨hk, he⟩ := hk0
  by_cases h0 : j < 0
  · rw [if_pos h0] at he; cases he
  rw [if_neg h0] at he
  have h1 : j < kLenN N k := by
    by_cases h1 : j < kLenN N k
    · exact h1
    · rw [if_neg h1] at he; cases he
  rw [if_pos h1] at he
  unfold rz at hz
  dsimp only at hz
  split at hz
  · rcases hlen with h | h
    · cases h
    rw [h] at hd hn
    obtain ⟨a, ha, ho⟩ := vld_row hv hk (by decide) (by decide)
    rw [kLenN_row (N := N) ho] at h1
    have hok := (hH.1.2.2.2.2.2.1 k i j.toNat).2 (isL_1 (Or.inr (Or.inl hk)))
    have k0 := go_st ih hH he (ok1 (show okV S.1 (vI (S.2.2 k i j.toNat)) from hok) hr)
    rw [hn] at k0
    have hw := wl_at (G := G) (ad := ad) ha ho
    rw [ent_2 hk] at hw
    refine va_bald hx hb hGS.1 hH.1.1 a 1 hw rfl (vpinI h0 h1 hy) hd ?_
    rw [clampI (by omega) hy]
    exact k0
  · cases hz

theorem s_lald (hC : Cx N m G b xs p R s mid args meth c A H0) (ih : IH N F m G b xs out p l e R s mid args below meth c A H0 Q) (hH : Here N m G b xs out p l e R s mid args below meth c A H0 Q L st S ad H locs cells slots ls)
    {raw : Instr} {len : Nat} (hd : decode (mCode m) (bpc m pc) = .ok (raw, len)) (hn : bpc m (pc + 1) = bpc m pc + len) (hlen : lenOf raw = 0 ∨ len = lenOf raw) (hz : rz m (bpc m pc) raw (.laload) = true)
    (he : x_lald N pc L st S (exec N F m) none = some out) : W p l e R s mid args below meth c H locs cells slots Q (F0 mid (bpc m pc) ls (st.map (toV ad))) := by
  obtain ⟨hm264, hx, hb, hml, hown, hts, hini, hfr, hlo, hGS, hA, hX, hbl, hbA, hTX, hN⟩ := hC
  unfold x_lald at he
  rcases st with _ | ⟨(j | (j | (j | j))), _ | ⟨(y | (y | (⟨k, i⟩ | y))), st⟩⟩ <;> first | (cases he; done) | skip
  have hy := okh hH.2.2.1
  have hv := okh (okt hH.2.2.1)
  have hr := okt (okt hH.2.2.1)
  dsimp only at he
  have hk0 : (kTag k = 3) ∧ (if j < 0 then none else if j < kLenN N k then exec N F m (pc + 1) L (vJ (S.2.2 k i j.toNat) :: st) S else none) = some out := by
    rcases z : kTag k with _ | _ | _ | _ | _ | _ <;> rw [z] at he <;> first | (cases he; done) | exact ⟨by omega, he⟩
  obtain ⟨hk, he⟩ := hk0
  by_cases h0 : j < 0
  · rw [if_pos h0] at he; cases he
  rw [if_neg h0] at he
  have h1 : j < kLenN N k := by
    by_cases h1 : j < kLenN N k
    · exact h1
    · rw [if_neg h1] at he; cases he
  rw [if_pos h1] at he
  unfold rz at hz
  dsimp only at hz
  split at hz
  · rcases hlen with h | h
    · cases h
    rw [h] at hd hn
    obtain ⟨a, ha, ho⟩ := vld_row hv hk (by decide) (by decide)
    rw [kLenN_row (N := N) ho] at h1
    have hok := (hH.1.2.2.2.2.2.1 k i j.toNat).1
    have k0 := go_st ih hH he (ok1 (show okV S.1 (vJ (S.2.2 k i j.toNat)) from hok) hr)
    rw [hn] at k0
    have hw := wl_at (G := G) (ad := ad) ha ho
    rw [ent_3 hk] at hw
    refine va_lald hx hb hGS.1 hH.1.1 a 2 hw rfl (vpinI h0 h1 hy) hd ?_
    rw [clampI (by omega) hy]
    exact k0
  · cases hz

theorem s_iast (hC : Cx N m G b xs p R s mid args meth c A H0) (ih : IH N F m G b xs out p l e R s mid args below meth c A H0 Q) (hH : Here N m G b xs out p l e R s mid args below meth c A H0 Q L st S ad H locs cells slots ls)
    {raw : Instr} {len : Nat} (hd : decode (mCode m) (bpc m pc) = .ok (raw, len)) (hn : bpc m (pc + 1) = bpc m pc + len) (hlen : lenOf raw = 0 ∨ len = lenOf raw) (hz : rz m (bpc m pc) raw (.iastore) = true)
    (he : x_iast N pc L st S (exec N F m) none = some out) : W p l e R s mid args below meth c H locs cells slots Q (F0 mid (bpc m pc) ls (st.map (toV ad))) := by
  obtain ⟨hm264, hx, hb, hml, hown, hts, hini, hfr, hlo, hGS, hA, hX, hbl, hbA, hTX, hN⟩ := hC
  unfold x_iast at he
  rcases st with _ | ⟨(x | (x | (x | x))), _ | ⟨(j | (j | (j | j))), _ | ⟨(y | (y | (⟨k, i⟩ | y))), st⟩⟩⟩ <;> first | (cases he; done) | skip
  have hw1 := okh hH.2.2.1
  have hy := okh (okt hH.2.2.1)
  have hv := okh (okt (okt hH.2.2.1))
  have hr := okt (okt (okt hH.2.2.1))
  dsimp only at he
  have hk0 : kTag k = 1 ∧ (if j < 0 then none else if j < kLenN N k then exec N F m (pc + 1) L st (S.1, S.2.1, sup S.2.2 k i j.toNat (x)) else none) = some out := by
    rcases z : kTag k with _ | _ | _ | _ | _ | _ <;> rw [z] at he <;> first | (cases he; done) | exact ⟨by omega, he⟩
  obtain ⟨hk, he⟩ := hk0
  by_cases h0 : j < 0
  · rw [if_pos h0] at he; cases he
  rw [if_neg h0] at he
  have h1 : j < kLenN N k := by
    by_cases h1 : j < kLenN N k
    · exact h1
    · rw [if_neg h1] at he; cases he
  rw [if_pos h1] at he
  unfold rz at hz
  dsimp only at hz
  split at hz
  · rcases hlen with h | h
    · cases h
    rw [h] at hd hn
    obtain ⟨a, ha, ho⟩ := vld_row hv hk (by decide) (by decide)
    rw [kLenN_row (N := N) ho] at h1
    have hw := wl_at (G := G) (ad := ad) ha ho
    rw [ent_1 hk] at hw
    refine va_iast hx hb hGS.1 hH.1.1 hH.1.2.1 hH.1.2.2.1 a 0 hw rfl (vpinI h0 h1 hy) hd (fun H1 locs1 hP hD hS => ?_)
    rw [clampI (by omega) hy] at hP hD
    have e2 : ent G ad (S.1, S.2.1, sup S.2.2 k i j.toNat (x)) (k, i) = .inl (G.2.1 1, kLen k, .inl (upd (fun j => Int32.ofInt (S.2.2 k i j)) j.toNat (Int32.ofInt x))) := by
      rw [ent_1 hk]
      congr 4
      
      funext j'
      unfold sup upd
      by_cases q : j' = j.toNat
      · simp [q]
      · simp [q]
    rw [← e2] at hP hD
    have k0 := go_sup ih hH he hr (wd_sup hH.1 ha ho (in32_64 hw1) (fun _ => hw1) hP hD hS)
    rw [hn] at k0
    exact k0
  · cases hz

theorem s_bast (hC : Cx N m G b xs p R s mid args meth c A H0) (ih : IH N F m G b xs out p l e R s mid args below meth c A H0 Q) (hH : Here N m G b xs out p l e R s mid args below meth c A H0 Q L st S ad H locs cells slots ls)
    {raw : Instr} {len : Nat} (hd : decode (mCode m) (bpc m pc) = .ok (raw, len)) (hn : bpc m (pc + 1) = bpc m pc + len) (hlen : lenOf raw = 0 ∨ len = lenOf raw) (hz : rz m (bpc m pc) raw (.bastore) = true)
    (he : x_bast N pc L st S (exec N F m) none = some out) : W p l e R s mid args below meth c H locs cells slots Q (F0 mid (bpc m pc) ls (st.map (toV ad))) := by
  obtain ⟨hm264, hx, hb, hml, hown, hts, hini, hfr, hlo, hGS, hA, hX, hbl, hbA, hTX, hN⟩ := hC
  unfold x_bast at he
  rcases st with _ | ⟨(x | (x | (x | x))), _ | ⟨(j | (j | (j | j))), _ | ⟨(y | (y | (⟨k, i⟩ | y))), st⟩⟩⟩ <;> first | (cases he; done) | skip
  have hw1 := okh hH.2.2.1
  have hy := okh (okt hH.2.2.1)
  have hv := okh (okt (okt hH.2.2.1))
  have hr := okt (okt (okt hH.2.2.1))
  dsimp only at he
  have hk0 : kTag k = 2 ∧ (if j < 0 then none else if j < kLenN N k then exec N F m (pc + 1) L st (S.1, S.2.1, sup S.2.2 k i j.toNat (w8 x)) else none) = some out := by
    rcases z : kTag k with _ | _ | _ | _ | _ | _ <;> rw [z] at he <;> first | (cases he; done) | exact ⟨by omega, he⟩
  obtain ⟨hk, he⟩ := hk0
  by_cases h0 : j < 0
  · rw [if_pos h0] at he; cases he
  rw [if_neg h0] at he
  have h1 : j < kLenN N k := by
    by_cases h1 : j < kLenN N k
    · exact h1
    · rw [if_neg h1] at he; cases he
  rw [if_pos h1] at he
  unfold rz at hz
  dsimp only at hz
  split at hz
  · rcases hlen with h | h
    · cases h
    rw [h] at hd hn
    obtain ⟨a, ha, ho⟩ := vld_row hv hk (by decide) (by decide)
    rw [kLenN_row (N := N) ho] at h1
    have hw := wl_at (G := G) (ad := ad) ha ho
    rw [ent_2 hk] at hw
    refine va_bast hx hb hGS.1 hH.1.1 hH.1.2.1 hH.1.2.2.1 a 1 hw rfl (vpinI h0 h1 hy) hd (fun H1 locs1 hP hD hS => ?_)
    rw [clampI (by omega) hy] at hP hD
    have e2 : ent G ad (S.1, S.2.1, sup S.2.2 k i j.toNat (w8 x)) (k, i) = .inl (G.2.1 2, kLen k, .inl (upd (fun j => Int32.ofInt (S.2.2 k i j)) j.toNat (vp_nar .byte (Int32.ofInt x)))) := by
      rw [ent_2 hk]
      congr 4
      rw [show vp_nar .byte (Int32.ofInt x) = Int32.ofInt (w8 x) from (i2b_of hw1)]
      funext j'
      unfold sup upd
      by_cases q : j' = j.toNat
      · simp [q]
      · simp [q]
    rw [← e2] at hP hD
    have k0 := go_sup ih hH he hr (wd_sup hH.1 ha ho (in32_64 (w8_in _)) (fun _ => w8_in _) hP hD hS)
    rw [hn] at k0
    exact k0
  · cases hz

theorem s_last (hC : Cx N m G b xs p R s mid args meth c A H0) (ih : IH N F m G b xs out p l e R s mid args below meth c A H0 Q) (hH : Here N m G b xs out p l e R s mid args below meth c A H0 Q L st S ad H locs cells slots ls)
    {raw : Instr} {len : Nat} (hd : decode (mCode m) (bpc m pc) = .ok (raw, len)) (hn : bpc m (pc + 1) = bpc m pc + len) (hlen : lenOf raw = 0 ∨ len = lenOf raw) (hz : rz m (bpc m pc) raw (.lastore) = true)
    (he : x_last N pc L st S (exec N F m) none = some out) : W p l e R s mid args below meth c H locs cells slots Q (F0 mid (bpc m pc) ls (st.map (toV ad))) := by
  obtain ⟨hm264, hx, hb, hml, hown, hts, hini, hfr, hlo, hGS, hA, hX, hbl, hbA, hTX, hN⟩ := hC
  unfold x_last at he
  rcases st with _ | ⟨(x | (x | (x | x))), _ | ⟨(j | (j | (j | j))), _ | ⟨(y | (y | (⟨k, i⟩ | y))), st⟩⟩⟩ <;> first | (cases he; done) | skip
  have hw1 := okh hH.2.2.1
  have hy := okh (okt hH.2.2.1)
  have hv := okh (okt (okt hH.2.2.1))
  have hr := okt (okt (okt hH.2.2.1))
  dsimp only at he
  have hk0 : kTag k = 3 ∧ (if j < 0 then none else if j < kLenN N k then exec N F m (pc + 1) L st (S.1, S.2.1, sup S.2.2 k i j.toNat (x)) else none) = some out := by
    rcases z : kTag k with _ | _ | _ | _ | _ | _ <;> rw [z] at he <;> first | (cases he; done) | exact ⟨by omega, he⟩
  obtain ⟨hk, he⟩ := hk0
  by_cases h0 : j < 0
  · rw [if_pos h0] at he; cases he
  rw [if_neg h0] at he
  have h1 : j < kLenN N k := by
    by_cases h1 : j < kLenN N k
    · exact h1
    · rw [if_neg h1] at he; cases he
  rw [if_pos h1] at he
  unfold rz at hz
  dsimp only at hz
  split at hz
  · rcases hlen with h | h
    · cases h
    rw [h] at hd hn
    obtain ⟨a, ha, ho⟩ := vld_row hv hk (by decide) (by decide)
    rw [kLenN_row (N := N) ho] at h1
    have hw := wl_at (G := G) (ad := ad) ha ho
    rw [ent_3 hk] at hw
    refine va_last hx hb hGS.1 hH.1.1 hH.1.2.1 hH.1.2.2.1 a 2 hw rfl (vpinI h0 h1 hy) hd (fun H1 locs1 hP hD hS => ?_)
    rw [clampI (by omega) hy] at hP hD
    have e2 : ent G ad (S.1, S.2.1, sup S.2.2 k i j.toNat (x)) (k, i) = .inl (G.2.1 3, kLen k, .inr (.inl (vp_updL (fun j => Int64.ofInt (S.2.2 k i j)) j.toNat (Int64.ofInt x)))) := by
      rw [ent_3 hk]
      congr 4
      congr 1
      funext j'
      unfold sup vp_updL
      by_cases q : j' = j.toNat
      · simp [q]
      · simp [q]
    rw [← e2] at hP hD
    have k0 := go_sup ih hH he hr (wd_sup hH.1 ha ho (hw1) (fun z => by unfold isL at z; rw [hk] at z; cases z) hP hD hS)
    rw [hn] at k0
    exact k0
  · cases hz

end WALK
end
section
section WALK
variable {N m : Nat} {G : GT} {b : Nat} {xs : Nat → Int32} {out : Out}
variable {p : Program} {l : Launch} {e : Env} {R : Room} {s : State} {mid : MethodId} {args : Array Value} {below : List Frame} {meth : Method} {c : Code} {A : Nat → Prop} {H0 : Heap} {Q : State → Prop}
variable {F pc : Nat} {L st : List MV} {S : MS} {ad : AdT} {H : Heap} {locs : List Loc} {cells slots : Nat} {ls : Array Slot}
theorem fld_facts {ci f : Nat} (hc : ci < 9) (hf : f < nF ci) : parseFieldDescriptor (cTb ci f).2.2.1 = some (tyF ci f) ∧ tyOk (fTy ci f) (tyF ci f) = true ∧ elem4 (9, ci, f, 0) wcs = true ∧ (cTb ci f).1 = cN ci := by
  have a1 : allR (fun f => fldOk ci f) 0 (nF ci) = true := allR_at 9 0 ci fldAll (by omega) (by omega)
  have a2 : allR (fun f => elem4 (9, ci, f, 0) wcs) 0 (nF ci) = true := allR_at 9 0 ci layAll (by omega) (by omega)
  have a3 : allR (fun f => decide ((cTb ci f).1 = cN ci)) 0 (nF ci) = true := allR_at 9 0 ci dclAll (by omega) (by omega)
  have h : fldOk ci f = true := allR_at (nF ci) 0 f a1 (by omega) (by omega)
  have h4 : decide ((cTb ci f).1 = cN ci) = true := allR_at (nF ci) 0 f a3 (by omega) (by omega)
  have h3 : elem4 (9, ci, f, 0) wcs = true := allR_at (nF ci) 0 f a2 (by omega) (by omega)
  unfold fldOk at h
  obtain ⟨h1, h2⟩ := band_t h
  exact ⟨of_decide_eq_true h1, h2, h3, of_decide_eq_true h4⟩
theorem fld_nm {ci : Nat} (hc : ci < 9) : ∀ a, a < nF ci → ∀ b, b < nF ci → a ≠ b → (cTb ci a).2.1 ≠ (cTb ci b).2.1 := by
  intro a ha b hb hab
  have a1 : allR (fun a => allR (fun b => cond (Nat.beq a b) true (decide ((cTb ci a).2.1 ≠ (cTb ci b).2.1))) 0 (nF ci)) 0 (nF ci) = true := allR_at 9 0 ci nmAll (by omega) (by omega)
  have a2 : allR (fun b => cond (Nat.beq a b) true (decide ((cTb ci a).2.1 ≠ (cTb ci b).2.1))) 0 (nF ci) = true := allR_at (nF ci) 0 a a1 (by omega) (by omega)
  have h : cond (Nat.beq a b) true (decide ((cTb ci a).2.1 ≠ (cTb ci b).2.1)) = true := allR_at (nF ci) 0 b a2 (by omega) (by omega)
  rcases z : Nat.beq a b with _ | _
  · rw [z] at h; exact of_decide_eq_true h
  · exact absurd (Nat.eq_of_beq_eq_true z) hab
theorem fld_in {ci : Nat} (hc : ci < 9) : ∀ w ∈ u_ws (cN ci) (cTb ci) (nF ci), w ∈ gw := by
  intro w hw
  obtain ⟨f, hf, rfl⟩ := List.mem_map.mp hw
  have h := (fld_facts hc (List.mem_range.mp hf)).2.2.1
  have h2 := gw_of h rfl
  rw [wd_9] at h2
  exact h2
theorem cls_at {ci : Nat} (hc : ci < 9) : cls0[ci]? = some (cN ci, cTb ci, nF ci) := by
  rcases (by omega : ci = 0 ∨ ci = 1 ∨ ci = 2 ∨ ci = 3 ∨ ci = 4 ∨ ci = 5 ∨ ci = 6 ∨ ci = 7 ∨ ci = 8) with rfl | rfl | rfl | rfl | rfl | rfl | rfl | rfl | rfl <;> rfl
theorem cls999 : kCls 999 = 99 := rfl
theorem cls1000 : kCls 1000 = 99 := rfl
theorem vld_obj {n k i : Nat} (h : okV n (.inr (.inr (.inl (k, i))))) (hc : kCls k < 9) : vld n (k, i) := by
  rcases h with h | h | ⟨h, -⟩
  · exact h
  · cases h; rw [cls999] at hc; omega
  · dsimp only at h; subst h; rw [cls1000] at hc; omega
theorem fs_at {k i f : Nat} (hf : f < nF (kCls k)) : ((List.range (nF (kCls k))).map (fval ad S k i))[f]? = some (fval ad S k i f) := by
  rw [List.getElem?_map, List.getElem?_range hf]
  rfl
theorem s_get {n : Nat} (hC : Cx N m G b xs p R s mid args meth c A H0) (ih : IH N F m G b xs out p l e R s mid args below meth c A H0 Q) (hH : Here N m G b xs out p l e R s mid args below meth c A H0 Q L st S ad H locs cells slots ls)
    {raw : Instr} {len : Nat} (hd : decode (mCode m) (bpc m pc) = .ok (raw, len)) (hn : bpc m (pc + 1) = bpc m pc + len) (hlen : lenOf raw = 0 ∨ len = lenOf raw) (hz : rz m (bpc m pc) raw (.getfield n) = true)
    (he : x_get n pc L st S (exec N F m) none = some out) : W p l e R s mid args below meth c H locs cells slots Q (F0 mid (bpc m pc) ls (st.map (toV ad))) := by
  obtain ⟨hm264, hx, hb, hml, hown, hts, hini, hfr, hlo, hGS, hA, hX, hbl, hbA, hTX, hN⟩ := hC
  unfold x_get at he
  rcases st with _ | ⟨(x | (x | (⟨k, i⟩ | x))), st⟩ <;> first | (cases he; done) | skip
  have hv := okh hH.2.2.1
  have hr := okt hH.2.2.1
  dsimp only at he
  rcases hk : Nat.beq (kCls k) (n / 100) with _ | _ <;> rw [hk] at he <;> first | (cases he; done) | skip
  have hk := Nat.eq_of_beq_eq_true hk
  rw [cond_true] at he
  unfold rz at hz
  dsimp only at hz
  split at hz
  · rename_i idx
    obtain ⟨h1, h2⟩ := band_t hz
    obtain ⟨h2, h3⟩ := band_t h2
    have h2 : n / 100 + 1 ≤ 9 := Nat.le_of_ble_eq_true h2
    have h3 : n % 100 + 1 ≤ nF (n / 100) := Nat.le_of_ble_eq_true h3
    rw [← hk] at h2 h3 he
    rcases hlen with h | h
    · cases h
    rw [h] at hd hn
    obtain ⟨a, ha, ho⟩ := vld_obj hv (by omega)
    have h0 : kTag k = 0 := (ords_kd ho).2.2.2.2.2 (by dsimp only; omega)
    have hw := wl_at (G := G) (ad := ad) ha ho
    rw [ent_0 h0] at hw
    have lk := hts _ (gw_of h1 rfl)
    rw [wd_0, ← hk] at lk
    refine va_get (ref := (cTb (kCls k) (n % 100)).1) (v := fval ad S k i (n % 100)) hx hb hts (fld_in (by omega)) hown hGS.1 hH.1.1 a hw (cls_at (by omega)) (n % 100) (by omega) lk (fun _ h => h) (fs_at (by omega)) hd ?_
    have key : ∀ v : MV, fval ad S k i (n % 100) = toV ad v → okV S.1 v → exec N F m (pc + 1) L (v :: st) S = some out → W p l e R s mid args below meth c H locs cells slots Q (F0 mid (bpc m pc + 3) ls (fval ad S k i (n % 100) :: st.map (toV ad))) := by
      intro v e1 e2 e3
      have k0 := go_st ih hH e3 (ok1 e2 hr)
      rw [hn] at k0
      rw [e1]
      exact k0
    have hs := hH.1.2.2.2.2.2.1 k i (n % 100)
    have hl0 : ∀ t, fTy (kCls k) (n % 100) = t → t ≠ 2 → isL k (n % 100) = false := by
      intro t e1 e2
      unfold isL
      rw [h0, e1]
      rcases z : Nat.beq t 2 with _ | _
      · rfl
      · exact absurd (Nat.eq_of_beq_eq_true z) e2
    rcases z : fTy (kCls k) (n % 100) with _ | _ | _ | _ | q <;> rw [z] at he
    · exact key (vI _) (by unfold fval; simp only [z]; rfl) (hs.2 (hl0 _ z (by decide))) he
    · exact key (vI _) (by unfold fval; simp only [z]; rfl) (hs.2 (hl0 _ z (by decide))) he
    · exact key (vJ _) (by unfold fval; simp only [z]; rfl) hs.1 he
    · rcases z2 : elem3 (k, i, n % 100) S.2.1 with _ | _ <;> rw [z2] at he <;> first | (cases he; done) | skip
      rw [cond_false] at he
      have hok := hH.1.2.2.2.2.2.2.1 (k, i) ⟨a, ha, ho⟩ h0 (n % 100) (show n % 100 < nF (kCls k) by omega) z z2
      exact key (.inr (.inr (.inl (fRef k i (n % 100))))) (by unfold fval; simp only [z, z2, cond_false]; rfl) (Or.inl hok) he
    · cases he
  · cases hz
/-- an object's fields behind a write of one -/
theorem fs_set {S' : MS} {k i f : Nat} {w : Value} (hw : fval ad S' k i f = w) (hf : f < nF (kCls k)) (ho : ∀ f', f' ≠ f → fval ad S' k i f' = fval ad S k i f') :
    ((List.range (nF (kCls k))).map (fval ad S k i)).set f w = (List.range (nF (kCls k))).map (fval ad S' k i) := by
  apply List.ext_getElem?
  intro q
  rw [List.getElem?_set]
  by_cases h : f = q
  · subst h
    rw [if_pos rfl, if_pos (by simpa using hf), List.getElem?_map, List.getElem?_range hf, ← hw]
    rfl
  · rw [if_neg h]
    by_cases h2 : q < nF (kCls k)
    · rw [List.getElem?_map, List.getElem?_map, List.getElem?_range h2]
      simp only [Option.map_some]
      rw [ho q (fun z => h z.symm)]
    · rw [List.getElem?_eq_none (by simp; omega), List.getElem?_eq_none (by simp; omega)]
theorem fval_sup {k i f : Nat} {v : Int} {f' : Nat} (h : f' ≠ f) : fval ad (S.1, S.2.1, sup S.2.2 k i f v) k i f' = fval ad S k i f' := by
  unfold fval
  have e1 : sup S.2.2 k i f v k i f' = S.2.2 k i f' := by unfold sup; rw [if_neg (fun z => h z.2.2)]
  simp only [e1]
theorem sup_self {k i f : Nat} {v : Int} {σ : Sto} : sup σ k i f v k i f = v := by unfold sup; rw [if_pos ⟨rfl, rfl, rfl⟩]
theorem beq3_ne {a b c a' b' c' : Nat} (h : ¬ (a = a' ∧ b = b' ∧ c = c')) : (cond (Nat.beq a a') (cond (Nat.beq b b') (cond (Nat.beq c c') true false) false) false) = false := by
  rcases h1 : Nat.beq a a' with _ | _
  · rfl
  rcases h2 : Nat.beq b b' with _ | _
  · rfl
  rcases h3 : Nat.beq c c' with _ | _
  · rfl
  exact absurd ⟨Nat.eq_of_beq_eq_true h1, Nat.eq_of_beq_eq_true h2, Nat.eq_of_beq_eq_true h3⟩ h
theorem elem3_cons (a b : Nat × Nat × Nat) (l : List (Nat × Nat × Nat)) : elem3 a (b :: l) = (cond (cond (Nat.beq a.1 b.1) (cond (Nat.beq a.2.1 b.2.1) (cond (Nat.beq a.2.2 b.2.2) true false) false) false) true (elem3 a l)) := by
  show cond (Nat.beq a.1 b.1) (cond (Nat.beq a.2.1 b.2.1) (cond (Nat.beq a.2.2 b.2.2) true (elem3 a l)) (elem3 a l)) (elem3 a l) = _
  rcases Nat.beq a.1 b.1 <;> rcases Nat.beq a.2.1 b.2.1 <;> rcases Nat.beq a.2.2 b.2.2 <;> rfl
theorem rem3_cons (a b : Nat × Nat × Nat) (l : List (Nat × Nat × Nat)) : rem3 a (b :: l) = (cond (cond (Nat.beq a.1 b.1) (cond (Nat.beq a.2.1 b.2.1) (cond (Nat.beq a.2.2 b.2.2) true false) false) false) (rem3 a l) (b :: rem3 a l)) := by
  show cond (Nat.beq a.1 b.1) (cond (Nat.beq a.2.1 b.2.1) (cond (Nat.beq a.2.2 b.2.2) (rem3 a l) (b :: rem3 a l)) (b :: rem3 a l)) (b :: rem3 a l) = _
  rcases Nat.beq a.1 b.1 <;> rcases Nat.beq a.2.1 b.2.1 <;> rcases Nat.beq a.2.2 b.2.2 <;> rfl
theorem elem3_rem (a c : Nat × Nat × Nat) : ∀ l, elem3 c (rem3 a l) = (cond (cond (Nat.beq a.1 c.1) (cond (Nat.beq a.2.1 c.2.1) (cond (Nat.beq a.2.2 c.2.2) true false) false) false) false (elem3 c l))
  | [] => by
    rcases (cond (Nat.beq a.1 c.1) (cond (Nat.beq a.2.1 c.2.1) (cond (Nat.beq a.2.2 c.2.2) true false) false) false) <;> rfl
  | b :: l => by
    rw [rem3_cons, elem3_cons]
    rcases h1 : (cond (Nat.beq a.1 b.1) (cond (Nat.beq a.2.1 b.2.1) (cond (Nat.beq a.2.2 b.2.2) true false) false) false) with _ | _
    · rw [cond_false, elem3_cons, elem3_rem a c l]
      rcases h2 : (cond (Nat.beq a.1 c.1) (cond (Nat.beq a.2.1 c.2.1) (cond (Nat.beq a.2.2 c.2.2) true false) false) false) with _ | _
      · rfl
      · rcases h3 : (cond (Nat.beq c.1 b.1) (cond (Nat.beq c.2.1 b.2.1) (cond (Nat.beq c.2.2 b.2.2) true false) false) false) with _ | _
        · rfl
        · exfalso
          have e1 : a = c := by
            by_cases z : a.1 = c.1 ∧ a.2.1 = c.2.1 ∧ a.2.2 = c.2.2
            · exact Prod.ext z.1 (Prod.ext z.2.1 z.2.2)
            · rw [beq3_ne z] at h2; cases h2
          rw [e1, h3] at h1
          cases h1
    · rw [cond_true, elem3_rem a c l]
      rcases h2 : (cond (Nat.beq a.1 c.1) (cond (Nat.beq a.2.1 c.2.1) (cond (Nat.beq a.2.2 c.2.2) true false) false) false) with _ | _
      · rcases h3 : (cond (Nat.beq c.1 b.1) (cond (Nat.beq c.2.1 b.2.1) (cond (Nat.beq c.2.2 b.2.2) true false) false) false) with _ | _
        · rfl
        · exfalso
          have e1 : a = b := by
            by_cases z : a.1 = b.1 ∧ a.2.1 = b.2.1 ∧ a.2.2 = b.2.2
            · exact Prod.ext z.1 (Prod.ext z.2.1 z.2.2)
            · rw [beq3_ne z] at h1; cases h1
          have e2 : c = b := by
            by_cases z : c.1 = b.1 ∧ c.2.1 = b.2.1 ∧ c.2.2 = b.2.2
            · exact Prod.ext z.1 (Prod.ext z.2.1 z.2.2)
            · rw [beq3_ne z] at h3; cases h3
          rw [e1] at h2
          rw [e2] at h2 h3
          rw [h3] at h2
          cases h2
      · rfl
end WALK
end
section
section WALK
variable {N m : Nat} {G : GT} {b : Nat} {xs : Nat → Int32} {out : Out}
variable {p : Program} {l : Launch} {e : Env} {R : Room} {s : State} {mid : MethodId} {args : Array Value} {below : List Frame} {meth : Method} {c : Code} {A : Nat → Prop} {H0 : Heap} {Q : State → Prop}
variable {F pc : Nat} {L st : List MV} {S : MS} {ad : AdT} {H : Heap} {locs : List Loc} {cells slots : Nat} {ls : Array Slot}
theorem fRef_lt {a k i f : Nat} (ho : nth ords a = some (k, i)) (hf : f < nF (kCls k)) : (fRef k i f).1 < 999 := by
  have e : allR (fun a => match nth ords a with
    | some q => allR (fun f => Nat.blt (fRef q.1 q.2 f).1 999) 0 (nF (kCls q.1))
    | none => true) 0 55 = true := by decide +kernel
  have h1 : a < 55 := nth_lt _ _ _ ho
  have e1 := allR_at 55 0 a e (by omega) (by omega)
  rw [ho] at e1
  have e2 : Nat.blt (fRef k i f).1 999 = true := allR_at (nF (kCls k)) 0 f e1 (by omega) (by omega)
  exact Nat.le_of_ble_eq_true e2
theorem put_k {k i f a idx : Nat} {w : Value} {S' : MS} {rest : List Value} (hC : Cx N m G b xs p R s mid args meth c A H0) (hW : Wd N G b xs A H0 S ad H locs) (hd : decode (mCode m) (bpc m pc) = .ok (.putfield idx, 3))
    (ha : a < S.1) (ho : nth ords a = some (k, i)) (h9 : kCls k < 9) (hf : f < nF (kCls k)) (lk : (Cond.fieldLink (cN (mOwn m)) idx (cTb (kCls k) f).1 (cTb (kCls k) f).2.1 (cTb (kCls k) f).2.2.1).before args s = true)
    (hfi : (cTb (kCls k) f).2.2.2 = true → mInit m = true ∧ mOwn m = kCls k) (hw : narrow (tyF (kCls k) f) w = w) (hfit : fits (tyF (kCls k) f) w = true)
    (hfv : fval ad S' k i f = w) (hoth : ∀ f', f' ≠ f → fval ad S' k i f' = fval ad S k i f') (hent : ∀ q', q' ≠ (k, i) → ent G ad S' q' = ent G ad S q') (hn1 : S'.1 = S.1)
    (kk : ∀ (H1 : Heap) (locs1 : List Loc), va_P G.1 cls0 (wl G ad S') H1 → va_D A (wl G ad S') → va_S A H0 H1 locs1 → W p l e R s mid args below meth c H1 locs1 cells slots Q (F0 mid (bpc m pc + 3) ls rest)) :
    W p l e R s mid args below meth c H locs cells slots Q (F0 mid (bpc m pc) ls (w :: .ref (ad k i) :: rest)) := by
  obtain ⟨hm264, hx, hb, hml, hown, hts, hini, hfr, hlo, hGS, hA, hX, hbl, hbA, hTX, hN⟩ := hC
  have h0 : kTag k = 0 := (ords_kd ho).2.2.2.2.2 h9
  have hw0 := wl_at (G := G) (ad := ad) ha ho
  rw [ent_0 h0] at hw0
  have kk2 : ∀ (H1 : Heap) (locs1 : List Loc), va_P G.1 cls0 ((wl G ad S).set a (ad k i, .inr (kCls k, ((List.range (nF (kCls k))).map (fval ad S k i)).set f w))) H1 → va_D A ((wl G ad S).set a (ad k i, .inr (kCls k, ((List.range (nF (kCls k))).map (fval ad S k i)).set f w))) → va_S A H0 H1 locs1 → W p l e R s mid args below meth c H1 locs1 cells slots Q (F0 mid (bpc m pc + 3) ls rest) := by
    intro H1 locs1 hP hD hS
    rw [fs_set hfv hf hoth, ← ent_0 (G := G) (S := S') h0] at hP hD
    have e := wl_set (G := G) (ad := ad) (S' := S') ha ho hn1 hent
    rw [e] at hP hD
    exact kk H1 locs1 hP hD hS
  rcases hfin : (cTb (kCls k) f).2.2.2 with _ | _
  · exact va_put hx hb hts (fld_in h9) (tyF (kCls k)) (fun k' hk' => (fld_facts h9 hk').1) (fld_nm h9) hown hGS.1 hW.1 hW.2.1 hW.2.2.1 a hw0 (cls_at h9) f hf lk (fun _ h => h) hfin (fld_facts h9 hf).1 hw hfit (by simpa using hf) hd kk2
  · obtain ⟨g1, g2⟩ := hfi hfin
    exact va_putF hx hb hts (fld_in h9) (tyF (kCls k)) (fun k' hk' => (fld_facts h9 hk').1) (fld_nm h9) hown hGS.1 hW.1 hW.2.1 hW.2.2.1 a hw0 (cls_at h9) f hf lk (fun _ h => h) hfin (hini g1) (by rw [g2]; exact (fld_facts h9 hf).2.2.2) (fld_facts h9 hf).1 hw hfit (by simpa using hf) hd kk2
theorem s_put {n : Nat} (hC : Cx N m G b xs p R s mid args meth c A H0) (ih : IH N F m G b xs out p l e R s mid args below meth c A H0 Q) (hH : Here N m G b xs out p l e R s mid args below meth c A H0 Q L st S ad H locs cells slots ls)
    {raw : Instr} {len : Nat} (hd : decode (mCode m) (bpc m pc) = .ok (raw, len)) (hn : bpc m (pc + 1) = bpc m pc + len) (hlen : lenOf raw = 0 ∨ len = lenOf raw) (hz : rz m (bpc m pc) raw (.putfield n) = true)
    (he : x_put n pc L st S (exec N F m) none = some out) : W p l e R s mid args below meth c H locs cells slots Q (F0 mid (bpc m pc) ls (st.map (toV ad))) := by
  have hC0 := hC
  obtain ⟨hm264, hx, hb, hml, hown, hts, hini, hfr, hlo, hGS, hA, hX, hbl, hbA, hTX, hN⟩ := hC
  unfold x_put at he
  rcases st with _ | ⟨v, _ | ⟨(x | (x | (⟨k, i⟩ | x))), st⟩⟩ <;> first | (cases he; done) | skip
  have hw1 := okh hH.2.2.1
  have hv := okh (okt hH.2.2.1)
  have hr := okt (okt hH.2.2.1)
  dsimp only at he
  rcases hk : Nat.beq (kCls k) (n / 100) with _ | _ <;> rw [hk] at he <;> first | (cases he; done) | skip
  have hk := Nat.eq_of_beq_eq_true hk
  rw [cond_true] at he
  unfold rz at hz
  dsimp only at hz
  split at hz
  · rename_i idx
    obtain ⟨h1, h2⟩ := band_t hz
    obtain ⟨h2, h4⟩ := band_t h2
    obtain ⟨h2, h3⟩ := band_t h2
    have h2 : n / 100 + 1 ≤ 9 := Nat.le_of_ble_eq_true h2
    have h3 : n % 100 + 1 ≤ nF (n / 100) := Nat.le_of_ble_eq_true h3
    have lk := hts _ (gw_of h1 rfl)
    rw [wd_0] at lk
    change (Cond.fieldLink (cN (mOwn m)) idx (cTb (n / 100) (n % 100)).1 (cTb (n / 100) (n % 100)).2.1 (cTb (n / 100) (n % 100)).2.2.1).before args s = true at lk
    rw [← hk] at h2 h3 he h4 lk
    clear h1
    generalize n % 100 = f at h3 he h4 lk
    rcases hlen with h | h
    · cases h
    rw [h] at hd hn
    obtain ⟨a, ha, ho⟩ := vld_obj hv (by omega)
    have h0 : kTag k = 0 := (ords_kd ho).2.2.2.2.2 (by dsimp only; omega)
    have h9 : kCls k < 9 := by omega
    have hf : f < nF (kCls k) := by omega
    have hfi : (cTb (kCls k) f).2.2.2 = true → mInit m = true ∧ mOwn m = kCls k := by
      intro z
      rw [z, cond_true] at h4
      obtain ⟨g1, g2⟩ := band_t h4
      exact ⟨g1, Nat.eq_of_beq_eq_true g2⟩
    obtain ⟨-, ty0, -, -⟩ := fld_facts h9 hf
    have hisL : ∀ t, fTy (kCls k) f = t → t ≠ 2 → isL k f = false := by
      intro t e1 e2
      unfold isL
      rw [h0, e1]
      rcases z : Nat.beq t 2 with _ | _
      · rfl
      · exact absurd (Nat.eq_of_beq_eq_true z) e2
    -- a number is put
    have key : ∀ (v : MV) (x : Int), fval ad (S.1, S.2.1, sup S.2.2 k i f x) k i f = toV ad v → narrow (tyF (kCls k) f) (toV ad v) = toV ad v → fits (tyF (kCls k) f) (toV ad v) = true → in64 x → (isL k f = false → in32 x) → exec N F m (pc + 1) L st (S.1, S.2.1, sup S.2.2 k i f x) = some out → W p l e R s mid args below meth c H locs cells slots Q (F0 mid (bpc m pc) ls (toV ad v :: .ref (ad k i) :: st.map (toV ad))) := by
      intro v x e1 e2 e3 e4 e5 e6
      refine put_k hC0 hH.1 hd ha ho h9 hf lk hfi e2 e3 e1 (fun f' hf' => fval_sup hf') (fun q' hq => ent_sup hq) rfl (fun H1 locs1 hP hD hS => ?_)
      have e := wl_set (G := G) (ad := ad) (S' := (S.1, S.2.1, sup S.2.2 k i f x)) ha ho rfl (fun q' hq => ent_sup hq)
      rw [← e] at hP hD
      have k0 := go_sup ih hH e6 hr (wd_sup hH.1 ha ho e4 e5 hP hD hS)
      rw [hn] at k0
      exact k0
    rcases z : fTy (kCls k) f with _ | _ | _ | _ | q <;> rw [z] at he ty0
    · rcases v with x | (x | (x | x)) <;> first | (cases he; done) | skip
      have ht : tyF (kCls k) f = .int := by
        generalize tyF (kCls k) f = ty at ty0
        cases ty <;> first | rfl | cases ty0
      exact key (vI x) x (by unfold fval; simp only [z]; rw [sup_self]; rfl) (by rw [ht]; rfl) (by rw [ht]; rfl) (in32_64 hw1) (fun _ => hw1) he
    · rcases v with x | (x | (x | x)) <;> first | (cases he; done) | skip
      have ht : tyF (kCls k) f = .boolean := by
        generalize tyF (kCls k) f = ty at ty0
        cases ty <;> first | rfl | cases ty0
      change (if x = 0 then exec N F m (pc + 1) L st (S.1, S.2.1, sup S.2.2 k i f x) else if x = 1 then exec N F m (pc + 1) L st (S.1, S.2.1, sup S.2.2 k i f x) else none) = some out at he
      by_cases g0 : x = 0
      · rw [if_pos g0] at he
        subst g0
        exact key (vI 0) 0 (by unfold fval; simp only [z]; rw [sup_self]; rfl) (by rw [ht]; rfl) (by rw [ht]; rfl) in64_0 (fun _ => in32_0) he
      rw [if_neg g0] at he
      by_cases g1 : x = 1
      · rw [if_pos g1] at he
        subst g1
        exact key (vI 1) 1 (by unfold fval; simp only [z]; rw [sup_self]; rfl) (by rw [ht]; rfl) (by rw [ht]; rfl) (by unfold in64; omega) (fun _ => by unfold in32; omega) he
      · rw [if_neg g1] at he; cases he
    · rcases v with x | (x | (x | x)) <;> first | (cases he; done) | skip
      have ht : tyF (kCls k) f = .long := by
        generalize tyF (kCls k) f = ty at ty0
        cases ty <;> first | rfl | cases ty0
      exact key (vJ x) x (by unfold fval; simp only [z]; rw [sup_self]; rfl) (by rw [ht]; rfl) (by rw [ht]; rfl) hw1 (fun zz => by unfold isL at zz; rw [h0, z] at zz; cases zz) he
    · rcases v with x | (x | (x | x)) <;> first | (cases he; done) | skip
      change cond (Nat.beq x.1 (fRef k i f).1) (cond (Nat.beq x.2 (fRef k i f).2) (exec N F m (pc + 1) L st (S.1, rem3 (k, i, f) S.2.1, S.2.2)) none) none = some out at he
      rcases g1 : Nat.beq x.1 (fRef k i f).1 with _ | _ <;> rw [g1] at he <;> first | (cases he; done) | skip
      rcases g2 : Nat.beq x.2 (fRef k i f).2 with _ | _ <;> rw [g2] at he <;> first | (cases he; done) | skip
      rw [cond_true, cond_true] at he
      have hx1 : x = fRef k i f := Prod.ext (Nat.eq_of_beq_eq_true g1) (Nat.eq_of_beq_eq_true g2)
      subst hx1
      have hrm : ∀ q f', elem3 (q, f') S.2.1 = elem3 (q, f') S.2.1 := fun _ _ => rfl
      have hnar : narrow (tyF (kCls k) f) (.ref (ad (fRef k i f).1 (fRef k i f).2)) = .ref (ad (fRef k i f).1 (fRef k i f).2) ∧ fits (tyF (kCls k) f) (.ref (ad (fRef k i f).1 (fRef k i f).2)) = true := by
        generalize tyF (kCls k) f = ty at ty0
        cases ty <;> first | exact ⟨rfl, rfl⟩ | cases ty0
      have hother : ∀ k' i' f', ¬ (k = k' ∧ i = i' ∧ f = f') → elem3 (k', i', f') (rem3 (k, i, f) S.2.1) = elem3 (k', i', f') S.2.1 := by
        intro k' i' f' hne
        rw [elem3_rem, beq3_ne hne]
        rfl
      refine put_k (S' := (S.1, rem3 (k, i, f) S.2.1, S.2.2)) hC0 hH.1 hd ha ho h9 hf lk hfi hnar.1 hnar.2 ?_ ?_ ?_ rfl (fun H1 locs1 hP hD hS => ?_)
      · unfold fval
        simp only [z]
        rw [elem3_rem]
        have : (cond (Nat.beq k k) (cond (Nat.beq i i) (cond (Nat.beq f f) true false) false) false) = true := by rw [Nat.beq_refl, Nat.beq_refl, Nat.beq_refl]; rfl
        rw [this]
        rfl
      · intro f' hf'
        unfold fval
        simp only [hother k i f' (fun z => hf' z.2.2.symm)]
      · intro q' hq
        exact ent_un (fun _ => rfl) (fun f' => hother q'.1 q'.2 f' (fun z => hq (Prod.ext z.1.symm z.2.1.symm)))
      · obtain ⟨-, -, -, w4, w5, w6, w7, w8⟩ := hH.1
        have hok : vld S.1 (fRef k i f) := by
          rcases hw1 with g | g | ⟨g, -⟩
          · exact g
          · have := fRef_lt ho hf; rw [g] at this; dsimp only at this; omega
          · have := fRef_lt ho hf; omega
        have hW' : Wd N G b xs A H0 (S.1, rem3 (k, i, f) S.2.1, S.2.2) ad H1 locs1 := by
          refine ⟨hP, hD, hS, w4, w5, w6, fun q hq h0' f' hl' hf' he' => ?_, w8⟩
          by_cases g : k = q.1 ∧ i = q.2 ∧ f = f'
          · obtain ⟨g3, g4, g5⟩ := g
            rw [← g3, ← g4, ← g5]
            exact hok
          · rw [hother q.1 q.2 f' g] at he'
            exact w7 q hq h0' f' hl' hf' he'
        have k0 := ih (pc + 1) L st (S.1, rem3 (k, i, f) S.2.1, S.2.2) ad H1 locs1 cells slots ls he ⟨hW', hH.2.1, hr, hH.2.2.2.1, hH.2.2.2.2.1, hH.2.2.2.2.2.1, hH.2.2.2.2.2.2.1, hH.2.2.2.2.2.2.2.1, hH.2.2.2.2.2.2.2.2⟩
        rw [hn] at k0
        exact k0
    · cases he
  · cases hz
end WALK
end
section
section WALK
variable {N m : Nat} {G : GT} {b : Nat} {xs : Nat → Int32} {out : Out}
variable {p : Program} {l : Launch} {e : Env} {R : Room} {s : State} {mid : MethodId} {args : Array Value} {below : List Frame} {meth : Method} {c : Code} {A : Nat → Prop} {H0 : Heap} {Q : State → Prop}
variable {F pc : Nat} {L st : List MV} {S : MS} {ad : AdT} {H : Heap} {locs : List Loc} {cells slots : Nat} {ls : Array Slot}
def adn (ad : AdT) (k i q : Nat) : AdT := fun k' i' => if k' = k ∧ i' = i then q else ad k' i'
theorem adn_self {k i q : Nat} : adn ad k i q k i = q := by unfold adn; rw [if_pos ⟨rfl, rfl⟩]
theorem adn_ne {k i q k' i' : Nat} (h : (k', i') ≠ (k, i)) : adn ad k i q k' i' = ad k' i' := by
  unfold adn
  rw [if_neg (fun z => h (Prod.ext z.1 z.2))]
theorem elem3_app (a : Nat × Nat × Nat) : ∀ l1 l2, elem3 a (l1 ++ l2) = (elem3 a l1 || elem3 a l2)
  | [], l2 => by simp [elem3]
  | b :: l1, l2 => by
    rw [List.cons_append, elem3_cons, elem3_cons, elem3_app a l1 l2]
    rcases (cond (Nat.beq a.1 b.1) (cond (Nat.beq a.2.1 b.2.1) (cond (Nat.beq a.2.2 b.2.2) true false) false) false) <;> rfl
theorem refSlots_k {a k i : Nat} (ho : nth ords a = some (k, i)) : (∀ f, f < nF (kCls k) → kTag k = 0 → fTy (kCls k) f = 3 → elem3 (k, i, f) (refSlots k i) = true) ∧ ∀ x ∈ refSlots k i, x.1 = k ∧ x.2.1 = i := by
  have e : allR (fun a => match nth ords a with
    | some q => band (allR (fun f => cond (Nat.beq (kTag q.1) 0) (cond (Nat.beq (fTy (kCls q.1) f) 3) (elem3 (q.1, q.2, f) (refSlots q.1 q.2)) true) true) 0 (nF (kCls q.1))) (allL (fun x => band (Nat.beq x.1 q.1) (Nat.beq x.2.1 q.2)) (refSlots q.1 q.2))
    | none => true) 0 55 = true := by decide +kernel
  have h1 : a < 55 := nth_lt _ _ _ ho
  have e1 := allR_at 55 0 a e (by omega) (by omega)
  rw [ho] at e1
  obtain ⟨e2, e3⟩ := band_t e1
  refine ⟨fun f hf h0 h3 => ?_, fun x hx => ?_⟩
  · have e4 : cond (Nat.beq (kTag k) 0) (cond (Nat.beq (fTy (kCls k) f) 3) (elem3 (k, i, f) (refSlots k i)) true) true = true := allR_at (nF (kCls k)) 0 f e2 (by omega) (by omega)
    rw [h0, h3] at e4
    exact e4
  · obtain ⟨g1, g2⟩ := band_t (allL_in e3 x hx)
    exact ⟨Nat.eq_of_beq_eq_true g1, Nat.eq_of_beq_eq_true g2⟩
theorem elem3_out {a : Nat × Nat × Nat} : ∀ {l : List (Nat × Nat × Nat)}, (∀ x ∈ l, ¬ (a.1 = x.1 ∧ a.2.1 = x.2.1)) → elem3 a l = false
  | [], _ => rfl
  | b :: l, h => by
    rw [elem3_cons, elem3_out (fun x hx => h x (List.mem_cons_of_mem _ hx))]
    rw [beq3_ne (fun z => h b List.mem_cons_self ⟨z.1, z.2.1⟩)]
    rfl
/-- behind a cell that is made, what was there is as it was -/
theorem ent_new {k i q a : Nat} {un' : List (Nat × Nat × Nat)} (hRK : RK S) (ho : nth ords S.1 = some (k, i)) (hu : ∀ k' i' f, (k', i') ≠ (k, i) → elem3 (k', i', f) un' = elem3 (k', i', f) S.2.1) {q' : Nat × Nat} (ha : a < S.1) (hq : nth ords a = some q') :
    (adn ad k i q q'.1 q'.2, ent G (adn ad k i q) (S.1 + 1, un', zro S.2.2 k i) q') = (ad q'.1 q'.2, ent G ad S q') := by
  have hne : q' ≠ (k, i) := fun z => by
    have := ords_inj (z ▸ hq) ho
    omega
  have hz : ∀ j, zro S.2.2 k i q'.1 q'.2 j = S.2.2 q'.1 q'.2 j := fun j => by
    unfold zro
    rw [if_neg (fun z => hne (Prod.ext z.1 z.2))]
  rw [adn_ne hne]
  congr 1
  unfold ent
  split
  · rename_i h0
    congr 2
    apply List.map_congr_left
    intro f hf
    have hf := List.mem_range.mp hf
    unfold fval
    simp only [hz, hu q'.1 q'.2 f hne]
    split
    · rfl
    · rename_i h3
      rcases z : elem3 (q'.1, q'.2, f) S.2.1 with _ | _
      · obtain ⟨a2, ha2, ho2⟩ := hRK q' ⟨a, ha, hq⟩ h0 f hf h3 z
        rw [cond_false, cond_false, adn_ne]
        intro z2
        have z3 : fRef q'.1 q'.2 f = (k, i) := z2
        have := ords_inj (z3 ▸ ho2) ho
        omega
      · rfl
    · rfl
  · simp only [hz]
  · simp only [hz]
theorem wl_new {k i q : Nat} {un' : List (Nat × Nat × Nat)} (hRK : RK S) (ho : nth ords S.1 = some (k, i)) (hu : ∀ k' i' f, (k', i') ≠ (k, i) → elem3 (k', i', f) un' = elem3 (k', i', f) S.2.1) :
    wl G ad S ++ [(q, ent G (adn ad k i q) (S.1 + 1, un', zro S.2.2 k i) (k, i))] = wl G (adn ad k i q) (S.1 + 1, un', zro S.2.2 k i) := by
  unfold wl
  have e : ords.take (S.1 + 1) = ords.take S.1 ++ [(k, i)] := by
    rw [nth_get] at ho
    rw [List.take_add_one, ho]
    rfl
  show _ = (ords.take (S.1 + 1)).map _
  rw [e, List.map_append, List.map_cons, List.map_nil, adn_self]
  congr 1
  apply List.map_congr_left
  intro q' hq'
  obtain ⟨a, ha, hx⟩ := List.mem_take_iff_getElem.mp hq'
  have ha2 : a < S.1 := by omega
  exact (ent_new hRK ho hu ha2 (by rw [nth_get, List.getElem?_eq_getElem (by omega), hx])).symm
theorem vld_ne {k i : Nat} (ho : nth ords S.1 = some (k, i)) {q : Nat × Nat} (h : vld S.1 q) : q ≠ (k, i) := by
  obtain ⟨a, ha, hq⟩ := h
  intro z
  have := ords_inj (z ▸ hq) ho
  omega
theorem toV_new {k i q : Nat} (ho : nth ords S.1 = some (k, i)) {v : MV} (h : okV S.1 v) : toV (adn ad k i q) v = toV ad v := by
  rcases v with v | v | ⟨k', i'⟩ | v
  · rfl
  · rfl
  · show Value.ref (adn ad k i q k' i') = Value.ref (ad k' i')
    rw [adn_ne]
    have hk := (ords_kd ho).1
    dsimp only at hk
    rcases h with h | h | ⟨h, -⟩
    · exact vld_ne ho h
    · intro z
      rw [h] at z
      have := congrArg Prod.fst z
      dsimp only at this
      omega
    · intro z
      have := congrArg Prod.fst z
      dsimp only at this h
      omega
  · rfl
theorem okV_mono {n n' : Nat} (hn : n ≤ n') {v : MV} (h : okV n v) : okV n' v := by
  rcases v with v | v | q | v
  · exact h
  · exact h
  · rcases h with ⟨a, ha, ho⟩ | h
    · exact Or.inl ⟨a, by omega, ho⟩
    · exact Or.inr h
  · trivial
/-- the place behind a cell that was made -/
theorem here_new {k i q : Nat} {un' : List (Nat × Nat × Nat)} {H1 : Heap} {L st' : List MV} (hH : Here N m G b xs out p l e R s mid args below meth c A H0 Q L st S ad H locs cells slots ls) (ho : nth ords S.1 = some (k, i)) (hst : ∀ v ∈ st', okV S.1 v)
    (hu : ∀ k' i' f, (k', i') ≠ (k, i) → elem3 (k', i', f) un' = elem3 (k', i', f) S.2.1) (hun : kTag k = 0 → ∀ f, f < nF (kCls k) → fTy (kCls k) f = 3 → elem3 (k, i, f) un' = true)
    (hP : va_P G.1 cls0 (wl G ad S ++ [(q, ent G (adn ad k i q) (S.1 + 1, un', zro S.2.2 k i) (k, i))]) H1) (hD : va_D A (wl G ad S ++ [(q, ent G (adn ad k i q) (S.1 + 1, un', zro S.2.2 k i) (k, i))])) (hS : va_S A H0 H1 locs) :
    Here N m G b xs out p l e R s mid args below meth c A H0 Q L (vR k i :: st') (S.1 + 1, un', zro S.2.2 k i) (adn ad k i q) H1 locs (cells + 1) (slots + szOf (k, i)) ls := by
  obtain ⟨⟨-, -, -, w4, w5, w6, w7, w8⟩, h2, h3, h4, h5, h6, h7, h8, h9⟩ := hH
  have hk := (ords_kd ho).1
  dsimp only at hk
  rw [wl_new w7 ho hu] at hP hD
  have hne999 : ((999 : Nat), (0 : Nat)) ≠ (k, i) := fun z => by have := congrArg Prod.fst z; dsimp only at this; omega
  refine ⟨⟨hP, hD, hS, by rw [adn_ne hne999]; exact w4, fun j hj => by rw [adn_ne (fun z => by have := congrArg Prod.fst z; dsimp only at this; omega)]; exact w5 j hj, fun k' i' j => ?_, fun q' hq' h0 f hf hf3 he => ?_, fun j hj => ?_⟩, fun v hv => okV_mono (Nat.le_succ _) (h2 v hv), ok1 (Or.inl ⟨S.1, Nat.lt_succ_self _, ho⟩) (fun v hv => okV_mono (Nat.le_succ _) (hst v hv)), h4, ⟨h5.1, h5.2.1, fun j v hj hv => ?_⟩, h6, ?_, ?_, ?_⟩
  · show in64 (zro S.2.2 k i k' i' j) ∧ (isL k' j = false → in32 (zro S.2.2 k i k' i' j))
    unfold zro
    split
    · exact ⟨in64_0, fun _ => in32_0⟩
    · exact w6 k' i' j
  · by_cases g : q' = (k, i)
    · rw [g] at h0 hf hf3 he
      have := hun h0 f hf hf3
      dsimp only at he
      rw [this] at he
      cases he
    · obtain ⟨a, ha, hqa⟩ := hq'
      have ha1 : a ≠ S.1 := fun z => by
        rw [z, ho] at hqa
        cases hqa
        exact g rfl
      have ha2 : a < S.1 + 1 := ha
      have he2 : elem3 (q'.1, q'.2, f) S.2.1 = false := (hu q'.1 q'.2 f g).symm.trans he
      obtain ⟨a2, g2, g3⟩ := w7 q' ⟨a, by omega, hqa⟩ h0 f hf hf3 he2
      exact ⟨a2, Nat.lt_succ_of_lt g2, g3⟩
  · have e1 : zro S.2.2 k i 999 0 j = S.2.2 999 0 j := by unfold zro; rw [if_neg (fun z => hne999 (Prod.ext z.1 z.2))]
    show Int32.ofInt (zro S.2.2 k i 999 0 j) = xs j
    rw [e1]
    exact w8 j hj
  · rw [toV_new ho (h2 v (nth_mem _ _ _ hj))]
    exact h5.2.2 j v hj hv
  · show cells + 1 + out.2.1 ≤ R.cells + (S.1 + 1)
    omega
  · show slots + szOf (k, i) + slN out.2.1 ≤ R.slots + slN (S.1 + 1)
    rw [slN_succ ho]
    omega
  · intro ad1 H2 locs2 cells1 slots1 pc1 ls1 hag hW2 hc1 hs1 hE hV
    refine h9 ad1 H2 locs2 cells1 slots1 pc1 ls1 (fun q' hq' => ?_) hW2 ?_ ?_ hE hV
    · obtain ⟨a, ha, hqa⟩ := hq'
      rw [hag q' ⟨a, Nat.lt_succ_of_lt ha, hqa⟩, adn_ne (vld_ne ho ⟨a, ha, hqa⟩)]
    · have : cells1 + (S.1 + 1) = cells + 1 + out.2.1 := hc1
      omega
    · have h10 : slots1 + slN (S.1 + 1) = slots + szOf (k, i) + slN out.2.1 := hs1
      rw [slN_succ ho] at h10
      omega
end WALK
end
section
section WALK
variable {N m : Nat} {G : GT} {b : Nat} {xs : Nat → Int32} {out : Out}
variable {p : Program} {l : Launch} {e : Env} {R : Room} {s : State} {mid : MethodId} {args : Array Value} {below : List Frame} {meth : Method} {c : Code} {A : Nat → Prop} {H0 : Heap} {Q : State → Prop}
variable {F pc : Nat} {L st : List MV} {S : MS} {ad : AdT} {H : Heap} {locs : List Loc} {cells slots : Nat} {ls : Array Slot}
theorem slN_mono {n n' : Nat} (h : n ≤ n') : slN n ≤ slN n' := by
  induction h with
  | refl => exact Nat.le_refl _
  | @step k _ ih =>
    rcases e : nth ords k with _ | q
    · have : slN (k + 1) = slN k := by
        rw [nth_get] at e
        unfold slN
        rw [List.take_add_one, e]
        simp
      show slN _ ≤ slN (k + 1)
      omega
    · have := slN_succ e
      show slN _ ≤ slN (k + 1)
      omega
theorem s_new {ci : Nat} (hC : Cx N m G b xs p R s mid args meth c A H0) (ih : IH N F m G b xs out p l e R s mid args below meth c A H0 Q) (hH : Here N m G b xs out p l e R s mid args below meth c A H0 Q L st S ad H locs cells slots ls)
    {raw : Instr} {len : Nat} (hd : decode (mCode m) (bpc m pc) = .ok (raw, len)) (hn : bpc m (pc + 1) = bpc m pc + len) (hlen : lenOf raw = 0 ∨ len = lenOf raw) (hz : rz m (bpc m pc) raw (.new ci) = true)
    (he : x_new ci pc L st S (exec N F m) none = some out) : W p l e R s mid args below meth c H locs cells slots Q (F0 mid (bpc m pc) ls (st.map (toV ad))) := by
  obtain ⟨hm264, hx, hb, hml, hown, hts, hini, hfr, hlo, hGS, hA, hX, hbl, hbA, hTX, hN⟩ := hC
  unfold x_new at he
  rcases ho : nth ords S.1 with _ | ⟨k, i⟩ <;> rw [ho] at he <;> first | (cases he; done) | skip
  dsimp only at he
  rcases g1 : Nat.beq (kTag k) 0 with _ | _ <;> rw [g1] at he <;> first | (cases he; done) | skip
  rcases g2 : Nat.beq (kCls k) ci with _ | _ <;> rw [g2] at he <;> first | (cases he; done) | skip
  rw [cond_true, cond_true] at he
  have h0 := Nat.eq_of_beq_eq_true g1
  have hk := Nat.eq_of_beq_eq_true g2
  unfold rz at hz
  dsimp only at hz
  split at hz
  · rename_i idx
    obtain ⟨h1, h2⟩ := band_t hz
    obtain ⟨h2, h3⟩ := band_t h2
    obtain ⟨h3, h4⟩ := band_t h3
    have h2 : ci + 1 ≤ 9 := Nat.le_of_ble_eq_true h2
    have w1 := hts _ (gw_of h1 rfl)
    have w2 := hts _ (gw_of h3 rfl)
    have w3 := hts _ (gw_of h4 rfl)
    rw [wd_6] at w1
    rw [wd_7] at w2
    rw [wd_8] at w3
    subst hk
    rcases hlen with h | h
    · cases h
    rw [h] at hd hn
    have h9 : kCls k < 9 := by omega
    have hmono := exec_n _ _ _ _ _ _ _ he
    have hmono1 : S.1 + 1 ≤ out.2.1 := hmono
    have hsl : slN S.1 + szOf (k, i) ≤ slN out.2.1 := by rw [← slN_succ ho]; exact slN_mono hmono1
    have hsz : szOf (k, i) = nF (kCls k) := by unfold szOf; rw [g1]; rfl
    obtain ⟨r1, r2⟩ := refSlots_k ho
    have hu : ∀ k' i' f, (k', i') ≠ (k, i) → elem3 (k', i', f) (S.2.1 ++ refSlots k i) = elem3 (k', i', f) S.2.1 := by
      intro k' i' f hne
      rw [elem3_app, elem3_out (l := refSlots k i) (fun x hx z => hne (Prod.ext (z.1.trans (r2 x hx).1) (z.2.trans (r2 x hx).2)))]
      simp
    have hun : kTag k = 0 → ∀ f, f < nF (kCls k) → fTy (kCls k) f = 3 → elem3 (k, i, f) (S.2.1 ++ refSlots k i) = true := by
      intro _ f hf h3
      rw [elem3_app, r1 f hf h0 h3]
      simp
    have hcells := hH.2.2.2.2.2.2.1
    have hslots := hH.2.2.2.2.2.2.2.1
    refine va_new (ci := kCls k) (fs := (List.range (nF (kCls k))).map (fval ad (S.1 + 1, S.2.1 ++ refSlots k i, zro S.2.2 k i) k i)) hx hb hts (fld_in h9) (tyF (kCls k)) (fun k' hk' => (fld_facts h9 hk').1) hown w1 w2 w3 hGS.1 hH.1.1 hH.1.2.1 hH.1.2.2.1 hA (cls_at h9) (fun f hf => ?_) (by omega) (by omega) hd (fun q H1 hP hD hS => ?_)
    · unfold vp_V
      rw [List.getD_eq_getElem?_getD, fs_at hf]
      show defaultValue (tyF (kCls k) f) = fval ad (S.1 + 1, S.2.1 ++ refSlots k i, zro S.2.2 k i) k i f
      have ty0 := (fld_facts h9 hf).2.1
      have hz0 : zro S.2.2 k i k i f = 0 := by unfold zro; rw [if_pos ⟨rfl, rfl⟩]
      unfold fval
      simp only [hz0]
      rcases z : fTy (kCls k) f with _ | _ | _ | _ | q <;> rw [z] at ty0 <;> generalize tyF (kCls k) f = ty at ty0 <;> cases ty <;> first | rfl | (cases ty0; done) | (simp only [hun h0 f hf z]; rfl)
    · have e1 : ∀ f, f < nF (kCls k) → fval ad (S.1 + 1, S.2.1 ++ refSlots k i, zro S.2.2 k i) k i f = fval (adn ad k i q) (S.1 + 1, S.2.1 ++ refSlots k i, zro S.2.2 k i) k i f := by
        intro f hf
        unfold fval
        rcases z : fTy (kCls k) f with _ | _ | _ | _ | q <;> first | rfl | (simp only [hun h0 f hf z]; rfl)
      have e2 : (List.range (nF (kCls k))).map (fval ad (S.1 + 1, S.2.1 ++ refSlots k i, zro S.2.2 k i) k i) = (List.range (nF (kCls k))).map (fval (adn ad k i q) (S.1 + 1, S.2.1 ++ refSlots k i, zro S.2.2 k i) k i) := List.map_congr_left (fun f hf => e1 f (List.mem_range.mp hf))
      rw [e2, ← ent_0 (G := G) (S := (S.1 + 1, S.2.1 ++ refSlots k i, zro S.2.2 k i)) h0] at hP hD
      have hHn := here_new hH ho hH.2.2.1 hu hun hP hD hS
      have k0 := ih _ _ _ _ _ _ _ _ _ _ he hHn
      rw [hn, hsz] at k0
      have e3 : (vR k i :: st).map (toV (adn ad k i q)) = .ref q :: st.map (toV ad) := by
        rw [List.map_cons]
        congr 1
        · show Value.ref (adn ad k i q k i) = _
          rw [adn_self]
        · exact List.map_congr_left (fun v hv => toV_new ho (hH.2.2.1 v hv))
      rw [e3] at k0
      exact k0
  · cases hz
end WALK
end
section
section WALK
variable {N m : Nat} {G : GT} {b : Nat} {xs : Nat → Int32} {out : Out}
variable {p : Program} {l : Launch} {e : Env} {R : Room} {s : State} {mid : MethodId} {args : Array Value} {below : List Frame} {meth : Method} {c : Code} {A : Nat → Prop} {H0 : Heap} {Q : State → Prop}
variable {F pc : Nat} {L st : List MV} {S : MS} {ad : AdT} {H : Heap} {locs : List Loc} {cells slots : Nat} {ls : Array Slot}
theorem zro_self {σ : Sto} {k i j : Nat} : zro σ k i k i j = 0 := by unfold zro; rw [if_pos ⟨rfl, rfl⟩]
theorem newa_k {k i t0 : Nat} {ty : FieldType} {atype : ArrayType} {a0 : vp_A} {st' : List MV} (hC : Cx N m G b xs p R s mid args meth c A H0) (ih : IH N F m G b xs out p l e R s mid args below meth c A H0 Q) (hH : Here N m G b xs out p l e R s mid args below meth c A H0 Q L (vI (kLen k : Int) :: st') S ad H locs cells slots ls)
    (hd : decode (mCode m) (bpc m pc) = .ok (.newarray atype, 2)) (hn : bpc m (pc + 1) = bpc m pc + 2) (ho : nth ords S.1 = some (k, i)) (h0 : kTag k ≠ 0) (hty : newarray.typeOf atype = ty) (harr : (Cond.arrayClass ty).before args s = true)
    (ht : (tys0 G)[t0]? = some (G.2.1 (kTag k), ty)) (hRA : ∀ cA : ClassId, va_RA s cA ty → cA = G.2.1 (kTag k)) (ha : ∀ cA : ClassId, vp_cell cA a0 = arrV cA (kLen k) (fun _ => defaultValue ty)) (hcb : componentBytes ty ≤ 8)
    (hent : ∀ q, ent G (adn ad k i q) (S.1 + 1, S.2.1, zro S.2.2 k i) (k, i) = .inl (G.2.1 (kTag k), a0))
    (he : exec N F m (pc + 1) L (vR k i :: st') (S.1 + 1, S.2.1, zro S.2.2 k i) = some out) : W p l e R s mid args below meth c H locs cells slots Q (F0 mid (bpc m pc) ls ((vI (kLen k : Int) :: st').map (toV ad))) := by
  obtain ⟨hm264, hx, hb, hml, hown, hts, hini, hfr, hlo, hGS, hA, hX, hbl, hbA, hTX, hN⟩ := hC
  have hmono1 : S.1 + 1 ≤ out.2.1 := exec_n _ _ _ _ _ _ _ he
  have hsl : slN S.1 + szOf (k, i) ≤ slN out.2.1 := by rw [← slN_succ ho]; exact slN_mono hmono1
  have hsz : szOf (k, i) = kLen k := by
    unfold szOf
    dsimp only
    rcases z : Nat.beq (kTag k) 0 with _ | _
    · rfl
    · exact absurd (Nat.eq_of_beq_eq_true z) h0
  have hcells := hH.2.2.2.2.2.2.1
  have hslots := hH.2.2.2.2.2.2.2.1
  have hkl := (ords_kd ho).2.2.2.2.1
  dsimp only at hkl
  have h32 : in32 (kLen k : Int) := by unfold in32; omega
  have hmul : kLen k * componentBytes ty ≤ 100000 * 8 := Nat.mul_le_mul (by omega) hcb
  subst hty
  refine va_newa (N' := kLen k) (a0 := a0) hx hb harr rfl hGS.1 hH.1.1 hH.1.2.1 hH.1.2.2.1 hA ha (fun z => by have := (lt32 h32 in32_0).mp z; omega) (by rw [clampI (by omega) h32]; omega) (by omega) (by omega) (by omega) hd (fun q cA H1 hK2 hP hD hS => ?_)
  have hcA : cA = G.2.1 (kTag k) := hRA cA (hK2.2 3 _ rfl).2
  subst hcA
  rw [← hent q] at hP hD
  have hHn := here_new hH ho (okt hH.2.2.1) (fun _ _ _ _ => rfl) (fun z => absurd z h0) hP hD hS
  have k0 := ih _ _ _ _ _ _ _ _ _ _ he hHn
  rw [hn, hsz] at k0
  have e3 : (vR k i :: st').map (toV (adn ad k i q)) = .ref q :: st'.map (toV ad) := by
    rw [List.map_cons]
    congr 1
    · show Value.ref (adn ad k i q k i) = _
      rw [adn_self]
    · exact List.map_congr_left (fun v hv => toV_new ho (okt hH.2.2.1 v hv))
  rw [e3] at k0
  exact k0
theorem ra_eq {cA : ClassId} {t0 : Nat} {ty : FieldType} {c0 : ClassId} (hK : va_K G.1 cls0 (tys0 G) s) (ht : (tys0 G)[t0]? = some (c0, ty)) (hp : ty = .int ∨ ty = .byte ∨ ty = .long) (h : va_RA s cA ty) : cA = c0 := by
  have h2 := (hK.2 t0 _ ht).2
  rcases hp with rfl | rfl | rfl
  · have h3 : s.vm.findClass _ = some cA := h
    have h4 : s.vm.findClass _ = some c0 := h2
    exact Option.some.inj (h3.symm.trans h4)
  · have h3 : s.vm.findClass _ = some cA := h
    have h4 : s.vm.findClass _ = some c0 := h2
    exact Option.some.inj (h3.symm.trans h4)
  · have h3 : s.vm.findClass _ = some cA := h
    have h4 : s.vm.findClass _ = some c0 := h2
    exact Option.some.inj (h3.symm.trans h4)
theorem s_newa {t : ArrayType} (hC : Cx N m G b xs p R s mid args meth c A H0) (ih : IH N F m G b xs out p l e R s mid args below meth c A H0 Q) (hH : Here N m G b xs out p l e R s mid args below meth c A H0 Q L st S ad H locs cells slots ls)
    {raw : Instr} {len : Nat} (hd : decode (mCode m) (bpc m pc) = .ok (raw, len)) (hn : bpc m (pc + 1) = bpc m pc + len) (hlen : lenOf raw = 0 ∨ len = lenOf raw) (hz : rz m (bpc m pc) raw (.newarray t) = true)
    (he : x_newa (tagOf t) pc L st S (exec N F m) none = some out) : W p l e R s mid args below meth c H locs cells slots Q (F0 mid (bpc m pc) ls (st.map (toV ad))) := by
  have hC0 := hC
  obtain ⟨hm264, hx, hb, hml, hown, hts, hini, hfr, hlo, hGS, hA, hX, hbl, hbA, hTX, hN⟩ := hC
  unfold x_newa at he
  rcases st with _ | ⟨(n | (n | (n | n))), st⟩ <;> first | (cases he; done) | skip
  dsimp only at he
  rcases ho : nth ords S.1 with _ | ⟨k, i⟩ <;> rw [ho] at he <;> first | (cases he; done) | skip
  dsimp only at he
  rcases g1 : Nat.beq (kTag k) (tagOf t) with _ | _ <;> rw [g1] at he <;> first | (cases he; done) | skip
  rcases g2 : Nat.beq (tagOf t) 0 with _ | _ <;> rw [g2] at he <;> first | (cases he; done) | skip
  rw [cond_true, cond_false] at he
  by_cases g3 : n = kLenZ k
  · rw [if_pos g3] at he
    have hkt := Nat.eq_of_beq_eq_true g1
    have hlz := (ords_kd ho).2.2.2.1
    dsimp only at hlz
    rw [hlz] at g3
    subst g3
    unfold rz at hz
    dsimp only at hz
    split at hz
    · rename_i t2
      obtain ⟨h1, h2⟩ := band_t hz
      have h1 := of_decide_eq_true h1
      subst h1
      have w1 := hts _ (gw_of h2 rfl)
      rw [wd_12] at w1
      rcases hlen with h | h
      · cases h
      rw [h] at hd hn
      cases t <;> first | (cases g2; done) | skip
      · exact newa_k (t0 := 1) (a0 := (kLen k, .inl (fun _ => 0))) hC0 ih hH hd hn ho (by rw [hkt]; decide) rfl w1 (by rw [hkt]; rfl) (fun cA h => by rw [hkt]; exact ra_eq (t0 := 1) hGS.1 rfl (Or.inr (Or.inl rfl)) h) (fun cA => rfl) (by decide) (fun q => by
          have e : (fun j => Int32.ofInt ((S.1 + 1, S.2.1, zro S.2.2 k i).2.2 k i j)) = fun _ => (0 : Int32) := by
            funext j
            show Int32.ofInt (zro S.2.2 k i k i j) = 0
            rw [zro_self]
            rfl
          rw [ent_2 hkt, e, hkt]
          rfl) he
      · exact newa_k (t0 := 0) (a0 := (kLen k, .inl (fun _ => 0))) hC0 ih hH hd hn ho (by rw [hkt]; decide) rfl w1 (by rw [hkt]; rfl) (fun cA h => by rw [hkt]; exact ra_eq (t0 := 0) hGS.1 rfl (Or.inl rfl) h) (fun cA => rfl) (by decide) (fun q => by
          have e : (fun j => Int32.ofInt ((S.1 + 1, S.2.1, zro S.2.2 k i).2.2 k i j)) = fun _ => (0 : Int32) := by
            funext j
            show Int32.ofInt (zro S.2.2 k i k i j) = 0
            rw [zro_self]
            rfl
          rw [ent_1 hkt, e, hkt]
          rfl) he
      · exact newa_k (t0 := 2) (a0 := (kLen k, .inr (.inl (fun _ => 0)))) hC0 ih hH hd hn ho (by rw [hkt]; decide) rfl w1 (by rw [hkt]; rfl) (fun cA h => by rw [hkt]; exact ra_eq (t0 := 2) hGS.1 rfl (Or.inr (Or.inr rfl)) h) (fun cA => rfl) (by decide) (fun q => by
          have e : (fun j => Int64.ofInt ((S.1 + 1, S.2.1, zro S.2.2 k i).2.2 k i j)) = fun _ => (0 : Int64) := by
            funext j
            show Int64.ofInt (zro S.2.2 k i k i j) = 0
            rw [zro_self]
            rfl
          rw [ent_3 hkt, e, hkt]
          rfl) he
    · cases hz
  · rw [if_neg g3] at he; cases he
end WALK
end
section
section WALK
variable {N m : Nat} {G : GT} {b : Nat} {xs : Nat → Int32} {out : Out}
variable {p : Program} {l : Launch} {e : Env} {R : Room} {s : State} {mid : MethodId} {args : Array Value} {below : List Frame} {meth : Method} {c : Code} {A : Nat → Prop} {H0 : Heap} {Q : State → Prop}
variable {F pc : Nat} {L st : List MV} {S : MS} {ad : AdT} {H : Heap} {locs : List Loc} {cells slots : Nat} {ls : Array Slot}
theorem words_eq : ∀ st : List MV, ((st.map (toV ad)).map fun v => v.category).sum = wordsOf st
  | [] => rfl
  | .inl _ :: st => by
    have := words_eq st
    simp only [List.map_cons, List.sum_cons, wordsOf, this]
    show 1 + _ = _
    omega
  | .inr (.inl _) :: st => by
    have := words_eq st
    simp only [List.map_cons, List.sum_cons, wordsOf, this]
    show 2 + _ = _
    omega
  | .inr (.inr (.inl _)) :: st => by
    have := words_eq st
    simp only [List.map_cons, List.sum_cons, wordsOf, this]
    show 1 + _ = _
    omega
  | .inr (.inr (.inr _)) :: st => by
    have := words_eq st
    simp only [List.map_cons, List.sum_cons, wordsOf, this]
    show 1 + _ = _
    omega
theorem roomI_t {m f w : Nat} (h : roomI m f w = true) : f ≤ mFr m ∧ 8 + w ≤ mLo m := by
  obtain ⟨h1, h2⟩ := band_t h
  exact ⟨Nat.le_of_ble_eq_true h1, Nat.le_of_ble_eq_true h2⟩
theorem s_obj (hC : Cx N m G b xs p R s mid args meth c A H0) (ih : IH N F m G b xs out p l e R s mid args below meth c A H0 Q) (hH : Here N m G b xs out p l e R s mid args below meth c A H0 Q L st S ad H locs cells slots ls)
    {raw : Instr} {len : Nat} (hd : decode (mCode m) (bpc m pc) = .ok (raw, len)) (hn : bpc m (pc + 1) = bpc m pc + len) (hlen : lenOf raw = 0 ∨ len = lenOf raw) (hz : rz m (bpc m pc) raw .dneg = true)
    (he : x_obj pc L st S (exec N F m) none = some out) : W p l e R s mid args below meth c H locs cells slots Q (F0 mid (bpc m pc) ls (st.map (toV ad))) := by
  obtain ⟨hm264, hx, hb, hml, hown, hts, hini, hfr, hlo, hGS, hA, hX, hbl, hbA, hTX, hN⟩ := hC
  unfold x_obj at he
  rcases st with _ | ⟨(x | (x | (⟨k, i⟩ | x))), st⟩ <;> first | (cases he; done) | skip
  dsimp only at he
  rcases g1 : Nat.ble (wordsOf st) 8 with _ | _ <;> rw [g1] at he <;> first | (cases he; done) | skip
  have g1 := Nat.le_of_ble_eq_true g1
  rw [cond_true] at he
  unfold rz at hz
  dsimp only at hz
  split at hz
  · obtain ⟨h1, h2⟩ := band_t hz
    obtain ⟨h1, h3⟩ := roomI_t h1
    rcases hlen with h | h
    · cases h
    rw [h] at hd hn
    have k := go_st ih hH he (okt hH.2.2.1)
    rw [hn] at k
    have w1 := hts _ (gw_of h2 rfl)
    rw [wd_20] at w1
    have w2 : (Cond.instanceMethod objectInit).before args s = true := hts (wd (30, 0, 0, 0)) (gw_of (q := (30, 0, 0, 0)) (by decide +kernel) rfl)
    have w3 : (Cond.code objectInit ⟨#[0xb1]⟩ 1 none).before args s = true := hts (wd (37, 0, 0, 0)) (gw_of (q := (37, 0, 0, 0)) (by decide +kernel) rfl)
    refine W.objInit hx hb hown w1 w2 w3 rfl (by rw [hml, ← hH.2.2.2.2.2.1]; exact hH.2.2.2.2.1.1) rfl hd (by omega) ?_ k
    show 2 * 0 + ((st.map (toV ad)).map fun v => v.category).sum + 12 ≤ R.locals
    rw [words_eq]
    omega
  · cases hz
theorem s_min (hC : Cx N m G b xs p R s mid args meth c A H0) (ih : IH N F m G b xs out p l e R s mid args below meth c A H0 Q) (hH : Here N m G b xs out p l e R s mid args below meth c A H0 Q L st S ad H locs cells slots ls)
    {raw : Instr} {len : Nat} (hd : decode (mCode m) (bpc m pc) = .ok (raw, len)) (hn : bpc m (pc + 1) = bpc m pc + len) (hlen : lenOf raw = 0 ∨ len = lenOf raw) (hz : rz m (bpc m pc) raw .dadd = true)
    (he : x_iopc (fun a b => min a b) pc L st S (exec N F m) none = some out) : W p l e R s mid args below meth c H locs cells slots Q (F0 mid (bpc m pc) ls (st.map (toV ad))) := by
  obtain ⟨hm264, hx, hb, hml, hown, hts, hini, hfr, hlo, hGS, hA, hX, hbl, hbA, hTX, hN⟩ := hC
  unfold x_iopc at he
  rcases st with _ | ⟨(y | (y | (y | y))), _ | ⟨(x | (x | (x | x))), st⟩⟩ <;> first | (cases he; done) | skip
  have hy := okh hH.2.2.1
  have hv := okh (okt hH.2.2.1)
  have hr := okt (okt hH.2.2.1)
  dsimp only at he
  rcases g1 : Nat.ble (wordsOf st) 8 with _ | _ <;> rw [g1] at he <;> first | (cases he; done) | skip
  have g1 := Nat.le_of_ble_eq_true g1
  rw [cond_true] at he
  unfold rz at hz
  dsimp only at hz
  split at hz
  · obtain ⟨h1, h2⟩ := band_t hz
    obtain ⟨h1, h3⟩ := roomI_t h1
    rcases hlen with h | h
    · cases h
    rw [h] at hd hn
    have hmi : in32 (min x y) := by unfold okV in32 at hy hv; unfold in32; omega
    have k := go_st ih hH he (ok1 (show okV S.1 (vI (min x y)) from hmi) hr)
    rw [hn] at k
    have w1 := hts _ (gw_of h2 rfl)
    rw [wd_22] at w1
    have hmono := exec_n _ _ _ _ _ _ _ he
    have hcells := hH.2.2.2.2.2.2.1
    have hslots := hH.2.2.2.2.2.2.2.1
    have hsl := slN_mono hmono
    refine va_mmin hx hb (by rw [hml, ← hH.2.2.2.2.2.1]; exact hH.2.2.2.2.1.1.symm) hown w1 (hts (wd (32, 0, 0, 0)) (gw_of (q := (32, 0, 0, 0)) (by decide +kernel) rfl)) (hts (wd (8, 54, 0, 0)) (gw_of (q := (8, 54, 0, 0)) (by decide +kernel) rfl)) (hts (wd (35, 0, 0, 0)) (gw_of (q := (35, 0, 0, 0)) (by decide +kernel) rfl)) (by omega) (by rw [words_eq]; omega) (by omega) (by omega) hd ?_
    rw [min_of hv hy]
    exact k
  · cases hz
theorem max_of {a b : Int} (ha : in32 a) (hb : in32 b) : (if Int32.ofInt a < Int32.ofInt b then Int32.ofInt b else Int32.ofInt a) = Int32.ofInt (max a b) := by
  by_cases h : a < b
  · rw [if_pos ((lt32 ha hb).mpr h), Int.max_eq_right (by omega)]
  · rw [if_neg (fun z => h ((lt32 ha hb).mp z)), Int.max_eq_left (by omega)]
theorem s_max (hC : Cx N m G b xs p R s mid args meth c A H0) (ih : IH N F m G b xs out p l e R s mid args below meth c A H0 Q) (hH : Here N m G b xs out p l e R s mid args below meth c A H0 Q L st S ad H locs cells slots ls)
    {raw : Instr} {len : Nat} (hd : decode (mCode m) (bpc m pc) = .ok (raw, len)) (hn : bpc m (pc + 1) = bpc m pc + len) (hlen : lenOf raw = 0 ∨ len = lenOf raw) (hz : rz m (bpc m pc) raw .dsub = true)
    (he : x_iopc (fun a b => max a b) pc L st S (exec N F m) none = some out) : W p l e R s mid args below meth c H locs cells slots Q (F0 mid (bpc m pc) ls (st.map (toV ad))) := by
  obtain ⟨hm264, hx, hb, hml, hown, hts, hini, hfr, hlo, hGS, hA, hX, hbl, hbA, hTX, hN⟩ := hC
  unfold x_iopc at he
  rcases st with _ | ⟨(y | (y | (y | y))), _ | ⟨(x | (x | (x | x))), st⟩⟩ <;> first | (cases he; done) | skip
  have hy := okh hH.2.2.1
  have hv := okh (okt hH.2.2.1)
  have hr := okt (okt hH.2.2.1)
  dsimp only at he
  rcases g1 : Nat.ble (wordsOf st) 8 with _ | _ <;> rw [g1] at he <;> first | (cases he; done) | skip
  have g1 := Nat.le_of_ble_eq_true g1
  rw [cond_true] at he
  unfold rz at hz
  dsimp only at hz
  split at hz
  · obtain ⟨h1, h2⟩ := band_t hz
    obtain ⟨h1, h3⟩ := roomI_t h1
    rcases hlen with h | h
    · cases h
    rw [h] at hd hn
    have hmi : in32 (max x y) := by unfold okV in32 at hy hv; unfold in32; omega
    have k := go_st ih hH he (ok1 (show okV S.1 (vI (max x y)) from hmi) hr)
    rw [hn] at k
    have w1 := hts _ (gw_of h2 rfl)
    rw [wd_23] at w1
    have hmono := exec_n _ _ _ _ _ _ _ he
    have hcells := hH.2.2.2.2.2.2.1
    have hslots := hH.2.2.2.2.2.2.2.1
    have hsl := slN_mono hmono
    refine va_mmax hx hb (by rw [hml, ← hH.2.2.2.2.2.1]; exact hH.2.2.2.2.1.1.symm) hown w1 (hts (wd (33, 0, 0, 0)) (gw_of (q := (33, 0, 0, 0)) (by decide +kernel) rfl)) (hts (wd (8, 54, 0, 0)) (gw_of (q := (8, 54, 0, 0)) (by decide +kernel) rfl)) (hts (wd (36, 0, 0, 0)) (gw_of (q := (36, 0, 0, 0)) (by decide +kernel) rfl)) (by omega) (by rw [words_eq]; omega) (by omega) (by omega) hd ?_
    rw [max_of hv hy]
    exact k
  · cases hz
theorem nfw : nativeFrameWords "java/lang/System" "arraycopy" 5 + 11 ≤ 60 := by decide +kernel
theorem s_copy (hC : Cx N m G b xs p R s mid args meth c A H0) (ih : IH N F m G b xs out p l e R s mid args below meth c A H0 Q) (hH : Here N m G b xs out p l e R s mid args below meth c A H0 Q L st S ad H locs cells slots ls)
    {raw : Instr} {len : Nat} (hd : decode (mCode m) (bpc m pc) = .ok (raw, len)) (hn : bpc m (pc + 1) = bpc m pc + len) (hlen : lenOf raw = 0 ∨ len = lenOf raw) (hz : rz m (bpc m pc) raw .dmul = true)
    (he : x_copy N pc L st S (exec N F m) none = some out) : W p l e R s mid args below meth c H locs cells slots Q (F0 mid (bpc m pc) ls (st.map (toV ad))) := by
  obtain ⟨hm264, hx, hb, hml, hown, hts, hini, hfr, hlo, hGS, hA, hX, hbl, hbA, hTX, hN⟩ := hC
  unfold x_copy at he
  rcases st with _ | ⟨(n | (n | (n | n))), _ | ⟨(dp | (dp | (dp | dp))), st⟩⟩ <;> first | (cases he; done) | skip
  rcases st with _ | ⟨(a3 | (a3 | (⟨k2, i2⟩ | a3))), _ | ⟨(sp | (sp | (sp | sp))), st⟩⟩ <;> first | (cases he; done) | skip
  rcases st with _ | ⟨(a5 | (a5 | (⟨k, i⟩ | a5))), st⟩ <;> first | (cases he; done) | skip
  have hvn := okh hH.2.2.1
  have hvd := okh (okt hH.2.2.1)
  have hv2 := okh (okt (okt hH.2.2.1))
  have hvs := okh (okt (okt (okt hH.2.2.1)))
  have hv1 := okh (okt (okt (okt (okt hH.2.2.1))))
  have hr := okt (okt (okt (okt (okt hH.2.2.1))))
  dsimp only at he
  rcases g1 : Nat.beq (kTag k) 1 with _ | _ <;> rw [g1] at he <;> first | (cases he; done) | skip
  rcases g2 : Nat.beq (kTag k2) 1 with _ | _ <;> rw [g2] at he <;> first | (cases he; done) | skip
  rw [cond_true, cond_true] at he
  have g1 := Nat.eq_of_beq_eq_true g1
  have g2 := Nat.eq_of_beq_eq_true g2
  by_cases b1 : n < 0
  · rw [if_pos b1] at he; cases he
  rw [if_neg b1] at he
  by_cases b2 : sp < 0
  · rw [if_pos b2] at he; cases he
  rw [if_neg b2] at he
  by_cases b3 : dp < 0
  · rw [if_pos b3] at he; cases he
  rw [if_neg b3] at he
  by_cases b4 : kLenN N k < sp + n
  · rw [if_pos b4] at he; cases he
  rw [if_neg b4] at he
  by_cases b5 : kLenN N k2 < dp + n
  · rw [if_pos b5] at he; cases he
  rw [if_neg b5] at he
  rcases g3 : Nat.ble (wordsOf st) 8 with _ | _ <;> rw [g3] at he <;> first | (cases he; done) | skip
  have g3 := Nat.le_of_ble_eq_true g3
  rw [cond_true] at he
  unfold rz at hz
  dsimp only at hz
  split at hz
  · obtain ⟨h1, h2⟩ := band_t hz
    obtain ⟨h1, h3⟩ := roomI_t h1
    rcases hlen with h | h
    · cases h
    rw [h] at hd hn
    obtain ⟨a1, ha1, ho1⟩ := vld_row hv1 g1 (by decide) (by decide)
    obtain ⟨a2, ha2, ho2⟩ := vld_row hv2 g2 (by decide) (by decide)
    rw [kLenN_row (N := N) ho1] at b4
    rw [kLenN_row (N := N) ho2] at b5
    have hw1 := wl_at (G := G) (ad := ad) ha1 ho1
    have hw2 := wl_at (G := G) (ad := ad) ha2 ho2
    rw [ent_1 g1] at hw1
    rw [ent_1 g2] at hw2
    have w1 := hts _ (gw_of h2 rfl)
    rw [wd_21] at w1
    have hnw := nfw
    have hm1 : in32 n := hvn
    have hm2 : in32 dp := hvd
    have hm3 : in32 sp := hvs
    refine va_copyi hx hb (by rw [hml, ← hH.2.2.2.2.2.1]; exact hH.2.2.2.2.1.1.symm) hown w1 (hts (wd (34, 0, 0, 0)) (gw_of (q := (34, 0, 0, 0)) (by decide +kernel) rfl)) (hts (wd (31, 0, 0, 0)) (gw_of (q := (31, 0, 0, 0)) (by decide +kernel) rfl)) (hts (wd (8, 53, 0, 0)) (gw_of (q := (8, 53, 0, 0)) (by decide +kernel) rfl)) hGS.1 hH.1.1 hH.1.2.1 hH.1.2.2.1 a1 a2 0 0 hw1 hw2 rfl rfl rfl (fun z => b2 ((lt32 hm3 in32_0).mp z)) (fun z => b3 ((lt32 hm2 in32_0).mp z)) (fun z => b1 ((lt32 hm1 in32_0).mp z)) ?_ ?_ (fun _ _ => rfl) (by omega) (by rw [words_eq]; omega) hd (fun H1 locs1 hP hD hS => ?_)
    · rw [clampI (by omega) hm3, clampI (by omega) hm1]; omega
    · rw [clampI (by omega) hm2, clampI (by omega) hm1]; omega
    · rw [clampI (by omega) hm3, clampI (by omega) hm2, clampI (by omega) hm1] at hP hD
      have e2 : ent G ad (S.1, S.2.1, cpy S.2.2 k i sp.toNat k2 i2 dp.toNat n.toNat) (k2, i2) = .inl (G.2.1 1, kLen k2, .inl (va_cpy (fun j => Int32.ofInt (S.2.2 k i j)) (fun j => Int32.ofInt (S.2.2 k2 i2 j)) sp.toNat dp.toNat n.toNat)) := by
        have e3 : (fun j => Int32.ofInt ((S.1, S.2.1, cpy S.2.2 k i sp.toNat k2 i2 dp.toNat n.toNat).2.2 k2 i2 j)) = va_cpy (fun j => Int32.ofInt (S.2.2 k i j)) (fun j => Int32.ofInt (S.2.2 k2 i2 j)) sp.toNat dp.toNat n.toNat := by
          funext j
          show Int32.ofInt (cpy S.2.2 k i sp.toNat k2 i2 dp.toNat n.toNat k2 i2 j) = _
          unfold cpy va_cpy
          by_cases q : dp.toNat ≤ j ∧ j < dp.toNat + n.toNat
          · rw [if_pos ⟨rfl, rfl, q⟩, if_pos q]
          · rw [if_neg (fun z => q z.2.2), if_neg q]
        rw [ent_1 g2, e3]
      rw [← e2] at hP hD
      have hne : ∀ q', q' ≠ (k2, i2) → ent G ad (S.1, S.2.1, cpy S.2.2 k i sp.toNat k2 i2 dp.toNat n.toNat) q' = ent G ad S q' := fun q' hq => ent_un (fun j => by
        unfold cpy
        rw [if_neg (fun z => hq (Prod.ext z.1 z.2.1))]) (fun _ => rfl)
      have e4 := wl_set (G := G) (ad := ad) (S' := (S.1, S.2.1, cpy S.2.2 k i sp.toNat k2 i2 dp.toNat n.toNat)) ha2 ho2 rfl hne
      rw [e4] at hP hD
      obtain ⟨-, -, -, w4, w5, w6, w7, w8⟩ := hH.1
      have hW' : Wd N G b xs A H0 (S.1, S.2.1, cpy S.2.2 k i sp.toNat k2 i2 dp.toNat n.toNat) ad H1 locs1 := by
        refine ⟨hP, hD, hS, w4, w5, fun k' i' j' => ?_, w7, fun j' hj => ?_⟩
        · show in64 (cpy S.2.2 k i sp.toNat k2 i2 dp.toNat n.toNat k' i' j') ∧ (isL k' j' = false → in32 (cpy S.2.2 k i sp.toNat k2 i2 dp.toNat n.toNat k' i' j'))
          unfold cpy
          split
          · have g := w6 k i (sp.toNat + (j' - dp.toNat))
            exact ⟨g.1, fun _ => g.2 (isL_1 (Or.inl g1))⟩
          · exact w6 k' i' j'
        · have hk : k2 ≠ 999 := by have := (ords_kd ho2).1; dsimp only at this; omega
          show Int32.ofInt (cpy S.2.2 k i sp.toNat k2 i2 dp.toNat n.toNat 999 0 j') = xs j'
          unfold cpy
          rw [if_neg (fun z => hk z.1.symm)]
          exact w8 j' hj
      have k0 := ih (pc + 1) L st (S.1, S.2.1, cpy S.2.2 k i sp.toNat k2 i2 dp.toNat n.toNat) ad H1 locs1 cells slots ls he ⟨hW', hH.2.1, hr, hH.2.2.2.1, hH.2.2.2.2.1, hH.2.2.2.2.2.1, hH.2.2.2.2.2.2.1, hH.2.2.2.2.2.2.2.1, hH.2.2.2.2.2.2.2.2⟩
      rw [hn] at k0
      exact k0
  · cases hz
end WALK
end
section
section WALK
variable {N m : Nat} {G : GT} {b : Nat} {xs : Nat → Int32} {out : Out}
variable {p : Program} {l : Launch} {e : Env} {R : Room} {s : State} {mid : MethodId} {args : Array Value} {below : List Frame} {meth : Method} {c : Code} {A : Nat → Prop} {H0 : Heap} {Q : State → Prop}
variable {F pc : Nat} {L st : List MV} {S : MS} {ad : AdT} {H : Heap} {locs : List Loc} {cells slots : Nat} {ls : Array Slot}
theorem s_ldc {i : Nat} (hC : Cx N m G b xs p R s mid args meth c A H0) (ih : IH N F m G b xs out p l e R s mid args below meth c A H0 Q) (hH : Here N m G b xs out p l e R s mid args below meth c A H0 Q L st S ad H locs cells slots ls)
    {raw : Instr} {len : Nat} (hd : decode (mCode m) (bpc m pc) = .ok (raw, len)) (hn : bpc m (pc + 1) = bpc m pc + len) (hlen : lenOf raw = 0 ∨ len = lenOf raw) (hz : rz m (bpc m pc) raw (.ldc i) = true)
    (he : exec N F m (pc + 1) L (vR 1000 i :: st) S = some out) : W p l e R s mid args below meth c H locs cells slots Q (F0 mid (bpc m pc) ls (st.map (toV ad))) := by
  obtain ⟨hm264, hx, hb, hml, hown, hts, hini, hfr, hlo, hGS, hA, hX, hbl, hbA, hTX, hN⟩ := hC
  unfold rz at hz
  dsimp only at hz
  split at hz
  · rename_i idx
    obtain ⟨h1, h2⟩ := band_t hz
    have hi : i + 1 ≤ 16 := Nat.le_of_ble_eq_true h1
    rcases hlen with h | h
    · cases h
    rw [h] at hd hn
    have k := go_st ih hH he (ok1 (Or.inr (Or.inr ⟨rfl, by dsimp only; omega⟩)) hH.2.2.1)
    rw [hn] at k
    have e1 : (vR 1000 i :: st).map (toV ad) = .ref (G.2.2 i) :: st.map (toV ad) := by
      rw [List.map_cons]
      congr 1
      show Value.ref (ad 1000 i) = _
      rw [hH.1.2.2.2.2.1 i (by omega)]
    rw [e1] at k
    exact va_ldcS hx hb hown (hGS.2.2 _ _ _ h2) hd k
  · cases hz
theorem s_ret (hH : Here N m G b xs out p l e R s mid args below meth c A H0 Q L st S ad H locs cells slots ls) (he : xret m st S = some out)
    (hd1 : mRet m = 0 → st = [] → decode (mCode m) (bpc m pc) = .ok (.return_, 1)) (hd2 : ∀ x, st = [.inl x] → decode (mCode m) (bpc m pc) = .ok (.ireturn, 1)) (hd3 : ∀ x, st = [.inr (.inl x)] → decode (mCode m) (bpc m pc) = .ok (.lreturn, 1)) (hd4 : ∀ x, st = [.inr (.inr (.inl x))] → decode (mCode m) (bpc m pc) = .ok (.areturn, 1)) :
    W p l e R s mid args below meth c H locs cells slots Q (F0 mid (bpc m pc) ls (st.map (toV ad))) := by
  have kk := hH.2.2.2.2.2.2.2.2
  unfold xret at he
  rcases st with _ | ⟨v, _ | ⟨u, st⟩⟩
  · dsimp only at he
    rcases z : mRet m with _ | q <;> rw [z] at he
    · cases he
      exact kk ad H locs cells slots pc ls (fun _ _ => rfl) hH.1 rfl rfl ⟨hd1 z rfl, z⟩ (fun v h => by cases h)
    · cases he
  · have hv := okh hH.2.2.1
    rcases v with x | (x | (x | x)) <;> dsimp only at he
    · have h2 : (mRet m = 1 ∨ (mRet m = 2 ∧ (x = 0 ∨ x = 1))) ∧ out = (some (vI x), S) := by
        rcases z : mRet m with _ | _ | _ | q <;> rw [z] at he
        · cases he
        · cases he; exact ⟨Or.inl rfl, rfl⟩
        · change (if x = 0 then some (some (vI x), S) else if x = 1 then some (some (vI x), S) else none) = some out at he
          by_cases g : x = 0
          · rw [if_pos g] at he; cases he; exact ⟨Or.inr ⟨rfl, Or.inl g⟩, rfl⟩
          · rw [if_neg g] at he
            by_cases g2 : x = 1
            · rw [if_pos g2] at he; cases he; exact ⟨Or.inr ⟨rfl, Or.inr g2⟩, rfl⟩
            · rw [if_neg g2] at he; cases he
        · cases he
      obtain ⟨h2, rfl⟩ := h2
      exact kk ad H locs cells slots pc ls (fun _ _ => rfl) hH.1 rfl rfl ⟨hd2 x rfl, h2, hv⟩ (fun v h => by cases h; exact hv)
    · rcases z : mRet m with _ | _ | _ | _ | q <;> rw [z] at he <;> first | (cases he; done) | skip
      cases he
      exact kk ad H locs cells slots pc ls (fun _ _ => rfl) hH.1 rfl rfl ⟨hd3 x rfl, z, hv⟩ (fun v h => by cases h; exact hv)
    · rcases z : mRet m with _ | _ | _ | _ | _ | q <;> rw [z] at he <;> first | (cases he; done) | skip
      cases he
      exact kk ad H locs cells slots pc ls (fun _ _ => rfl) hH.1 rfl rfl ⟨hd4 x rfl, z⟩ (fun v h => by cases h; exact hv)
    · cases he
  · rcases v with x | (x | (x | x)) <;> cases he
end WALK
end
section
/-! CALLS: a method's contract out of its run -/
theorem takeR_spec : ∀ (n : Nat) (st acc as rest : List MV), takeR n st acc = some (as, rest) → ∃ ts : List MV, ts.length = n ∧ st = ts ++ rest ∧ as = ts.reverse ++ acc
  | 0, st, acc, as, rest, h => by
    simp only [takeR, Option.some.injEq, Prod.mk.injEq] at h
    exact ⟨[], rfl, by rw [h.2]; rfl, by rw [← h.1]; rfl⟩
  | n + 1, [], acc, as, rest, h => by simp [takeR] at h
  | n + 1, v :: st, acc, as, rest, h => by
    obtain ⟨ts, h1, h2, h3⟩ := takeR_spec n st (v :: acc) as rest (by simpa [takeR] using h)
    exact ⟨v :: ts, by simp [h1], by rw [h2]; rfl, by rw [h3]; simp⟩
theorem lg_len (ad : AdT) : ∀ as : List MV, (lg_sl (as.map (toV ad))).length = (spread as).length
  | [] => rfl
  | .inl x :: as => by
    have h := lg_len ad as
    show (lg_sl (Value.int (Int32.ofInt x) :: as.map (toV ad))).length = (spread as).length + 1
    unfold lg_sl at h ⊢
    rw [List.flatMap_cons, List.length_append]
    show 1 + _ = _
    omega
  | .inr (.inl x) :: as => by
    have h := lg_len ad as
    show (lg_sl (Value.long (Int64.ofInt x) :: as.map (toV ad))).length = (spread as).length + 1 + 1
    unfold lg_sl at h ⊢
    rw [List.flatMap_cons, List.length_append]
    show 2 + _ = _
    omega
  | .inr (.inr (.inl q)) :: as => by
    have h := lg_len ad as
    show (lg_sl (Value.ref (ad q.1 q.2) :: as.map (toV ad))).length = (spread as).length + 1
    unfold lg_sl at h ⊢
    rw [List.flatMap_cons, List.length_append]
    show 1 + _ = _
    omega
  | .inr (.inr (.inr u)) :: as => by
    have h := lg_len ad as
    show (lg_sl (Value.null :: as.map (toV ad))).length = (spread as).length + 1
    unfold lg_sl at h ⊢
    rw [List.flatMap_cons, List.length_append]
    show 1 + _ = _
    omega
theorem spr_at (ad : AdT) : ∀ (as : List MV) (j i : Nat) (v : MV), nth (spread as) i = some v → v ≠ vX → (j + i, toV ad v) ∈ lv_args j (as.map (toV ad))
  | [], j, i, v, h, _ => by simp [spread, nth] at h
  | .inl x :: as, j, 0, v, h, hx => by
    cases (show some (vI x) = some v from h)
    exact List.mem_cons_self
  | .inl x :: as, j, i + 1, v, h, hx => by
    have k := spr_at ad as (j + 1) i v h hx
    rw [show j + (i + 1) = j + 1 + i by omega]
    exact List.mem_cons_of_mem _ k
  | .inr (.inl x) :: as, j, 0, v, h, hx => by
    cases (show some (vJ x) = some v from h)
    exact List.mem_cons_self
  | .inr (.inl x) :: as, j, 1, v, h, hx => by
    cases (show some vX = some v from h)
    exact absurd rfl hx
  | .inr (.inl x) :: as, j, i + 2, v, h, hx => by
    have k := spr_at ad as (j + 2) i v h hx
    rw [show j + (i + 2) = j + 2 + i by omega]
    exact List.mem_cons_of_mem _ k
  | .inr (.inr (.inl q)) :: as, j, 0, v, h, hx => by
    cases (show some (.inr (.inr (.inl q))) = some v from h)
    exact List.mem_cons_self
  | .inr (.inr (.inl q)) :: as, j, i + 1, v, h, hx => by
    have k := spr_at ad as (j + 1) i v h hx
    rw [show j + (i + 1) = j + 1 + i by omega]
    exact List.mem_cons_of_mem _ k
  | .inr (.inr (.inr u)) :: as, j, 0, v, h, hx => by
    cases (show some (.inr (.inr (.inr u))) = some v from h)
    exact absurd rfl hx
  | .inr (.inr (.inr u)) :: as, j, i + 1, v, h, hx => by
    have k := spr_at ad as (j + 1) i v h hx
    rw [show j + (i + 1) = j + 1 + i by omega]
    exact List.mem_cons_of_mem _ k
theorem padX_at : ∀ (n : Nat) (l : List MV) (i : Nat) (v : MV), nth (padX n l) i = some v → v ≠ vX → nth l i = some v
  | 0, l, i, v, h, _ => by simp [padX, nth] at h
  | n + 1, [], 0, v, h, hx => by
    cases (show some vX = some v from h)
    exact absurd rfl hx
  | n + 1, [], i + 1, v, h, hx => by
    have k := padX_at n [] i v h hx
    simp [nth] at k
  | n + 1, a :: l, 0, v, h, hx => h
  | n + 1, a :: l, i + 1, v, h, hx => padX_at n l i v h hx
theorem padX_len : ∀ (n : Nat) (l : List MV), (padX n l).length = n
  | 0, l => rfl
  | n + 1, [] => by
    show (padX n []).length + 1 = n + 1
    rw [padX_len n []]
  | n + 1, a :: l => by
    show (padX n l).length + 1 = n + 1
    rw [padX_len n l]
theorem padX_mem : ∀ (n : Nat) (l : List MV) (v : MV), v ∈ padX n l → v = vX ∨ v ∈ l
  | 0, l, v, h => absurd h List.not_mem_nil
  | n + 1, [], v, h => by
    rcases List.mem_cons.mp (show v ∈ vX :: padX n [] from h) with h | h
    · exact Or.inl h
    · exact padX_mem n [] v h
  | n + 1, a :: l, v, h => by
    rcases List.mem_cons.mp (show v ∈ a :: padX n l from h) with h | h
    · exact Or.inr (by rw [h]; exact List.mem_cons_self)
    · rcases padX_mem n l v h with h | h
      · exact Or.inl h
      · exact Or.inr (List.mem_cons_of_mem _ h)
theorem spread_mem : ∀ (l : List MV) (v : MV), v ∈ spread l → v = vX ∨ v ∈ l
  | [], v, h => absurd h List.not_mem_nil
  | .inl x :: l, v, h => by
    rcases List.mem_cons.mp (show v ∈ vI x :: spread l from h) with h | h
    · exact Or.inr (by rw [h]; exact List.mem_cons_self)
    · rcases spread_mem l v h with h | h
      · exact Or.inl h
      · exact Or.inr (List.mem_cons_of_mem _ h)
  | .inr (.inl x) :: l, v, h => by
    rcases List.mem_cons.mp (show v ∈ vJ x :: vX :: spread l from h) with h | h
    · exact Or.inr (by rw [h]; exact List.mem_cons_self)
    rcases List.mem_cons.mp h with h | h
    · exact Or.inl h
    · rcases spread_mem l v h with h | h
      · exact Or.inl h
      · exact Or.inr (List.mem_cons_of_mem _ h)
  | .inr (.inr r) :: l, v, h => by
    rcases List.mem_cons.mp (show v ∈ .inr (.inr r) :: spread l from h) with h | h
    · exact Or.inr (by rw [h]; exact List.mem_cons_self)
    · rcases spread_mem l v h with h | h
      · exact Or.inl h
      · exact Or.inr (List.mem_cons_of_mem _ h)
theorem noJ_at : ∀ (l : List MV), noJ l = true → ∀ v ∈ l, isJ v = false
  | [], _, v, h => absurd h List.not_mem_nil
  | a :: l, h, v, hv => by
    unfold noJ at h
    cases z : isJ a <;> rw [z] at h
    · rcases List.mem_cons.mp hv with q | q
      · rw [q]; exact z
      · exact noJ_at l h v q
    · cases h
theorem mkL_mem {k : Nat} {as : List MV} {v : MV} (h : v ∈ mkL k as) : v = vX ∨ v ∈ as := by
  rcases padX_mem _ _ _ h with h | h
  · exact Or.inl h
  · exact spread_mem _ _ h
theorem argOk_t {k : Nat} {as : List MV} (h : recvOk k as = true) : (spread as).length ≤ mMaxL k ∧ (mLong k = false → ∀ v ∈ as, isJ v = false) ∧ cond (mSt k) true (recvC k as) = true := by
  unfold recvOk at h
  cases z : argOk k as <;> rw [z] at h
  · cases h
  · unfold argOk at z
    cases z1 : Nat.ble (spread as).length (mMaxL k) <;> rw [z1] at z
    · cases z
    · refine ⟨Nat.le_of_ble_eq_true z1, fun hl => ?_, h⟩
      rw [cond_true, hl, cond_false] at z
      exact noJ_at as z
theorem locs_entry {ad : AdT} {k : Nat} {as : List MV} {ls : Array Slot} (h : lv_has ls (mMaxL k) (lv_args 0 (as.map (toV ad)))) : Locs ad (mkL k as) ls := by
  refine ⟨by rw [h.1]; exact (padX_len _ _).symm, h.2.1, fun i v hi hv => ?_⟩
  have h1 := spr_at ad as 0 i v (padX_at _ _ _ _ hi hv) hv
  rw [Nat.zero_add] at h1
  exact h.2.2 _ h1
theorem bpc0_all : allR (fun k => Nat.beq (bpc k 0) 0) 0 264 = true := by decide +kernel
theorem bpc0 {k : Nat} (h : k < 264) : bpc k 0 = 0 := Nat.eq_of_beq_eq_true (allR_at 264 0 k bpc0_all (by omega) (by omega))
theorem plain_all : allR (fun k => plainName (cN (mOwn k))) 1 263 = true := by decide +kernel
theorem plain_k {k : Nat} (h0 : 0 < k) (h : k < 264) : plainName (mN k).cls = true := allR_at 263 1 k plain_all (by omega) (by omega)
theorem mRet_k {k : Nat} (h : k < 264) : retOk (mRet k) (mRetT k) = true := allR_at 264 0 k mRet_ok (by omega) (by omega)
theorem ret0 {r : Option FieldType} (h : retOk 0 r = true) : r = none := by
  rcases r with _ | r
  · rfl
  · cases h
theorem ret1 {r : Option FieldType} (h : retOk 1 r = true) : r = some .int := by
  rcases r with _ | r
  · cases h
  · cases r <;> first | rfl | cases h
theorem ret2 {r : Option FieldType} (h : retOk 2 r = true) : r = some .boolean := by
  rcases r with _ | r
  · cases h
  · cases r <;> first | rfl | cases h
theorem ret3 {r : Option FieldType} (h : retOk 3 r = true) : r = some .long := by
  rcases r with _ | r
  · cases h
  · cases r <;> first | rfl | cases h
theorem ret4 {r : Option FieldType} (h : retOk 4 r = true) : ∃ n, r = some (.object n) := by
  rcases r with _ | r
  · cases h
  · cases r <;> first | exact ⟨_, rfl⟩ | cases h
theorem toV_same {ad ad1 : AdT} {n : Nat} (hag : ∀ q, vld n q → ad1 q.1 q.2 = ad q.1 q.2) (h9 : ad1 999 0 = ad 999 0) (h10 : ∀ i, i < 16 → ad1 1000 i = ad 1000 i) {v : MV} (h : okV n v) : toV ad1 v = toV ad v := by
  rcases v with v | v | ⟨k, i⟩ | v
  · rfl
  · rfl
  · show Value.ref (ad1 k i) = Value.ref (ad k i)
    rcases h with h | h | ⟨h, h2⟩
    · exact congrArg _ (hag (k, i) h)
    · cases h
      exact congrArg _ h9
    · dsimp only at h h2
      subst h
      exact congrArg _ (h10 i h2)
  · rfl
section CALL
variable {N : Nat} {G : GT} {b : Nat} {xs : Nat → Int32}
/-- what else holds of the cells -/
def RestW (N : Nat) (G : GT) (b : Nat) (xs : Nat → Int32) (ad : AdT) (S : MS) : Prop := ad 999 0 = b ∧ (∀ i, i < 16 → ad 1000 i = G.2.2 i) ∧ okS S.2.2 ∧ RK S ∧ (∀ j, j < N → Int32.ofInt (S.2.2 999 0 j) = xs j)
/-- what holds as a method begins -/
def PreW (N : Nat) (G : GT) (b : Nat) (xs : Nat → Int32) (ad : AdT) (S : MS) (sz : Nat) (U : State) : Prop :=
  U.heap.size = sz ∧ va_P G.1 cls0 (wl G ad S) U.heap ∧ GS G U ∧ va_D (va_A (wl G ad S) sz) (wl G ad S) ∧ va_X b N xs U U.heap ∧ b < sz ∧ ¬ va_A (wl G ad S) sz b ∧ TXc G (va_A (wl G ad S) sz) U U.heap
def QcW (N : Nat) (G : GT) (b : Nat) (xs : Nat → Int32) (out : Out) (ad : AdT) (S : MS) (sz : Nat) : Array Value → State → Outcome → State → Prop := fun _ st oc t =>
  (∃ ad1 : AdT, oc = .returned (out.1.map (toV ad1)) ∧ (∀ q, vld S.1 q → ad1 q.1 q.2 = ad q.1 q.2) ∧ va_P G.1 cls0 (wl G ad1 out.2) t.heap ∧ va_D (va_A (wl G ad S) sz) (wl G ad1 out.2) ∧ RestW N G b xs ad1 out.2 ∧ ∀ v, out.1 = some v → okV out.2.1 v) ∧ va_F (va_A (wl G ad S) sz) st t
def rmK (k : Nat) (S S' : MS) : Room := { frames := mFr k, cells := S'.1 - S.1, slots := slN S'.1 - slN S.1, locals := mLo k }
def wsK (k : Nat) : List Cond := Cond.code (mN k) (mCode k) (mMaxL k) (mRetT k) :: gw
/-- every method's contract, out of its run with so much fuel -/
def MetK (N F : Nat) (l : Launch) : Prop := ∀ (k : Nat) (G : GT) (b : Nat) (xs : Nat → Int32) (as : List MV) (S : MS) (out : Out) (ad : AdT) (sz : Nat), 0 < k → k < 264 → exec N F k 0 (mkL k as) [] S = some out → recvOk k as = true → (∀ v ∈ as, okV S.1 v) → RestW N G b xs ad S → N < 2147483648 →
  Met l (mN k) (wsK k) (rmK k S out.2) (va_Pc (as.map (toV ad)) (PreW N G b xs ad S sz)) (QcW N G b xs out ad S sz) (out.2.1 - S.1) (slN out.2.1 - slN S.1) (va_A (wl G ad S) sz)
theorem met_of {F : Nat} {l : Launch} (hw : ∀ (m : Nat) (G : GT) (b : Nat) (xs : Nat → Int32) (out : Out) (p : Program) (e : Env) (R : Room) (s : State) (mid : MethodId) (args : Array Value) (below : List Frame) (meth : Method) (c : Code) (A : Nat → Prop) (H0 : Heap) (Q : State → Prop), Cx N m G b xs p R s mid args meth c A H0 → IH N F m G b xs out p l e R s mid args below meth c A H0 Q) : MetK N F l := by
  intro k G b xs as S out ad sz hk0 hk he hrv hok hrest hN
  have hmono := exec_n _ _ _ _ _ _ _ he
  have hsl := slN_mono hmono
  obtain ⟨hlen, hJ, -⟩ := argOk_t hrv
  refine Met.ofW (cc := mCode k) (maxL := mMaxL k) (ret := mRetT k) (plain_k hk0 hk) rfl ?_
  intro p e s mid args below meth c s₁ B hml hv
  obtain ⟨rfl, hsz, hP, hGS, hD, hX, hbl, hbA, hTX⟩ := hv
  have hts := atoms_spec (ws := wsK k) B.pre
  have hown : s.vm.findClass (cN (mOwn k)) = some mid.cls := findClass_of_methodNamed B.named
  have hlocks := B.notSynchronized
  have hx := B.exec
  have hb := B.bytes
  have hr := B.returns
  subst hsz
  rw [lg_entry_eq]
  have hl := lv_entry (as.map (toV ad)) (n := mMaxL k) (by rw [lg_len]; exact hlen)
  generalize ((lg_sl (as.map (toV ad))) ++ List.replicate (mMaxL k - (lg_sl (as.map (toV ad))).length) Slot.unset).toArray = ls at hl ⊢
  have hC : Cx N k G b xs p (headSpec (wsK k) (rmK k S out.2)).room s mid (as.map (toV ad)).toArray meth c (va_A (wl G ad S) s.heap.size) s.heap := ⟨hk, hx, hb, hml, hown, fun w hw => hts w (List.mem_cons_of_mem _ hw), fun hi => (name_of_methodNamed B.named B.method).1.trans (mInit_nm k hk hi), Nat.le_refl _, Nat.le_refl _, hGS, fun q h => Or.inr h, hX, hbl, hbA, hTX, hN⟩
  obtain ⟨r1, r2, r3, r4, r5⟩ := hrest
  have k0 := hw k G b xs out p e _ s mid _ below meth c _ _ (MQ below (QcW N G b xs out ad S s.heap.size) (as.map (toV ad)).toArray s (out.2.1 - S.1) (slN out.2.1 - slN S.1) (va_A (wl G ad S) s.heap.size)) hC 0 (mkL k as) [] S ad s.heap [] 0 0 ls he ⟨⟨hP, hD, va_S.rf, r1, r2, r3, r4, r5⟩, fun v hv => ?_, fun v hv => absurd hv List.not_mem_nil, fun hl v hv => ?_, locs_entry hl, padX_len _ _, ?_, ?_, ?_⟩
  · rw [bpc0 hk] at k0
    exact k0
  · rcases mkL_mem hv with h | h
    · rw [h]; trivial
    · exact hok v h
  · rcases mkL_mem hv with h | h
    · rw [h]; rfl
    · exact hJ hl v h
  · show 0 + out.2.1 ≤ out.2.1 - S.1 + S.1
    omega
  · show 0 + slN out.2.1 ≤ slN out.2.1 - slN S.1 + slN S.1
    omega
  · intro ad1 H1 locs1 cells1 slots1 pc1 ls1 hag hW hc1 hs1 hE hV
    have hc2 : cells1 = out.2.1 - S.1 := by omega
    have hs2 : slots1 = slN out.2.1 - slN S.1 := by omega
    subst hc2
    subst hs2
    obtain ⟨w1, w2, w3, w4, w5, w6, w7, w8⟩ := hW
    have hQ : ∀ t : State, t.heap = H1 → QcW N G b xs out ad S s.heap.size (as.map (toV ad)).toArray s (.returned (out.1.map (toV ad1))) t := fun t ht => ⟨⟨ad1, rfl, hag, by rw [ht]; exact w1, w2, ⟨w4, w5, w6, w7, w8⟩, hV⟩, w3.F ht⟩
    have hm := mRet_k hk
    obtain ⟨o1, o2⟩ := out
    rcases o1 with _ | (x | (x | (x | x)))
    · obtain ⟨hd, h0⟩ := hE
      rw [h0] at hm
      exact W.vret hx hb (hr.trans (ret0 hm)) (fun t ht _ => hQ t ht) w3.2.2 hd
    · obtain ⟨hd, h0, -⟩ := hE
      rcases h0 with h0 | ⟨h0, h1⟩
      · rw [h0] at hm
        exact W.iret hx hb (hr.trans (ret1 hm)) (fun t ht _ => hQ t ht) w3.2.2 hd
      · rw [h0] at hm
        refine W.zret hx hb (hr.trans (ret2 hm)) ?_ (fun t ht _ => hQ t ht) w3.2.2 hd
        rcases h1 with rfl | rfl <;> rfl
    · obtain ⟨hd, h0, -⟩ := hE
      rw [h0] at hm
      exact W.lret hx hb (hr.trans (ret3 hm)) (fun t ht _ => hQ t ht) w3.2.2 hd
    · obtain ⟨hd, h0⟩ := hE
      rw [h0] at hm
      obtain ⟨nm, hnm⟩ := ret4 hm
      exact W.aret hx hb (hr.trans hnm) (Or.inl ⟨_, rfl⟩) (Or.inr ⟨_, rfl⟩) (fun t ht _ => hQ t ht) w3.2.2 hd
    · exact hE.elim
end CALL
end
section
/-! CALLS: what a call goes on with -/
theorem blindW {N : Nat} {G : GT} {b : Nat} {xs : Nat → Int32} {ad : AdT} {S : MS} {sz : Nat} (vs : List Value) : FrameBlind (va_Pc vs (PreW N G b xs ad S sz)) := by
  intro a U g mk q
  obtain ⟨q0, q1, q2, q3, q4, q5, q6, q7, q8⟩ := q
  have hv : U.vm.Alike (U.calling g mk a).vm := Vm.Alike.refl U.vm
  exact ⟨q0, q1, q2, ⟨va_K.moved hv q3.1, fun a' i k h => va_Nw.same rfl rfl (q3.2.1 a' i k h), fun a' i k h => vk_R.same rfl (q3.2.2 a' i k h)⟩, q4, va_X.moved hv q5, q6, q7, TXc.moved hv q8⟩
theorem wcs1_all : allL (fun q => cond (Nat.beq q.1 1) (Nat.blt q.2.2.2 264) true) wcs = true := by decide +kernel
theorem wcs1 {a i k : Nat} (h : elem4 (1, a, i, k) wcs = true) : k < 264 := by
  have h1 := allL_in wcs1_all _ (elem4_in _ _ h)
  dsimp only at h1
  have h2 : Nat.beq 1 1 = true := rfl
  rw [h2, cond_true] at h1
  exact Nat.le_of_ble_eq_true h1
theorem fr0_all : allR (fun m => Nat.ble (mFr m) (mFr 0)) 0 264 = true := by decide +kernel
theorem roomOk_t {m k : Nat} (hm : m < 264) (h : roomOk m k = true) : 0 < k ∧ mFr k + 1 ≤ mFr m ∧ 8 + (mMaxL k + 11) + mLo k ≤ mLo m := by
  obtain ⟨h1, h2⟩ := band_t h
  have h1 := Nat.le_of_ble_eq_true h1
  have h2 := Nat.le_of_ble_eq_true h2
  have z3 : Nat.ble (mFr m) (mFr 0) = true := allR_at (f := fun m => Nat.ble (mFr m) (mFr 0)) 264 0 m fr0_all (by omega) (by omega)
  have h3 : mFr m ≤ mFr 0 := Nat.le_of_ble_eq_true z3
  refine ⟨?_, h1, h2⟩
  rcases Nat.eq_zero_or_pos k with e | e
  · subst e; omega
  · exact e
theorem cal_t {k : Nat} (h0 : 0 < k) (hk : k < 264) : elem4 (3, k, 0, 0) wcs = true ∧ elem4 (8, mOwn k, 0, 0) wcs = true ∧ mOwn k < 60 := by
  have h := calAll k hk h0
  obtain ⟨h1, h2⟩ := band_t h
  obtain ⟨h2, h3⟩ := band_t h2
  exact ⟨h1, h2, Nat.le_of_ble_eq_true h3⟩
theorem mArg_k {k : Nat} (hk : k < 264) : (parseMethodDescriptor (mN k).desc).map (fun d => d.parameters.length) = some (cond (mSt k) (mArg k) (mArg k - 1)) := of_decide_eq_true (allR_at 264 0 k mArg_ok (by omega) (by omega))
theorem parse_len {d : String} {n : Nat} (h : (parseMethodDescriptor d).map (fun d => d.parameters.length) = some n) : ∀ sig, parseMethodDescriptor d = some sig → n = sig.parameters.length := by
  intro sig hs
  rw [hs] at h
  exact (Option.some.inj h).symm
theorem nest_k {a i k : Nat} (h : nestOk a i k = true) : k = 149 := by
  unfold nestOk at h
  unfold band3 at h
  rcases z1 : Nat.beq k 149 with _ | _
  · rw [z1] at h
    generalize Nat.beq a 5 = x1 at h
    generalize Nat.beq a 2 = x2 at h
    generalize Nat.beq i 70 = x3 at h
    generalize Nat.beq i 119 = x4 at h
    cases x1 <;> cases x2 <;> cases x3 <;> cases x4 <;> cases h
  · exact Nat.eq_of_beq_eq_true z1
section WALK
variable {N m : Nat} {G : GT} {b : Nat} {xs : Nat → Int32} {out : Out}
variable {p : Program} {l : Launch} {e : Env} {R : Room} {s : State} {mid : MethodId} {args : Array Value} {below : List Frame} {meth : Method} {c : Code} {A : Nat → Prop} {H0 : Heap} {Q : State → Prop}
variable {F pc : Nat} {L st : List MV} {S : MS} {ad : AdT} {H : Heap} {locs : List Loc} {cells slots : Nat} {ls : Array Slot}
theorem code_k {k : Nat} (hts : ∀ w ∈ gw, w.before args s = true) (h0 : 0 < k) (hk : k < 264) : (∀ w ∈ wsK k, ∀ (a' : Array Value) (U : State), s.WarmedH U.vm → w.before a' U = true) ∧ (Cond.code (mN k) (mCode k) (mMaxL k) (mRetT k)).before args s = true ∧ (Cond.initialized (mN k).cls).before args s = true ∧ ((mN k).cls ≠ "java/lang/invoke/MethodHandle" ∧ (mN k).cls ≠ "java/lang/invoke/VarHandle") := by
  obtain ⟨h1, h2, h3⟩ := cal_t h0 hk
  have g1 := gw_of h1 rfl
  have g2 := gw_of h2 rfl
  rw [wd_3] at g1
  rw [wd_8] at g2
  refine ⟨pay_in hts (fun w hw => ?_), hts _ g1, hts _ g2, cN_plain _ h3⟩
  rcases List.mem_cons.mp hw with e | e
  · rw [e]; exact gw_GoodIn _ g1
  · exact gw_GoodIn w e
theorem pre_of {S : MS} (hC : Cx N m G b xs p R s mid args meth c A H0) (hW : Wd N G b xs A H0 S ad H locs) (as : List MV) : ∀ U : State, U.heap = H → s.WarmedH U.vm → va_Pc (as.map (toV ad)) (PreW N G b xs ad S H.size) (as.map (toV ad)).toArray U := by
  intro U hU hWm
  obtain ⟨hm264, hx, hb, hml, hown, hts, hini, hfr, hlo, hGS, hA, hX, hbl, hbA, hTX, hN⟩ := hC
  obtain ⟨w1, w2, w3, w4, w5, w6, w7, w8⟩ := hW
  have hF : ∀ q, va_A (wl G ad S) H.size q → A q := by
    intro q h
    rcases h with ⟨k, e, h⟩ | h
    · exact w2.2 k (q, e) h
    · exact hA q (Nat.le_trans w3.1 h)
  refine ⟨rfl, by rw [hU], by rw [hU]; exact w1, ⟨va_K.moved hWm.alike hGS.1, fun a' i k h => va_Nw.warmM hWm (hGS.2.1 a' i k h), fun a' i k h => vk_R.warm hWm (hGS.2.2 a' i k h)⟩, w2.self, ?_, Nat.lt_of_lt_of_le hbl w3.1, ?_, ?_⟩
  · rw [hU]
    exact va_X.moved hWm.alike (va_X.kept hX (w3.2.1 b hbl hbA))
  · intro h
    exact hbA (hF b h)
  · rw [hU]
    exact TXc.moved hWm.alike ((hTX.kept w3.2.1).narrow hF)
theorem go_call {rest : List MV} {y : Out} (hC : Cx N m G b xs p R s mid args meth c A H0) (ih : IH N F m G b xs out p l e R s mid args below meth c A H0 Q) (hH : Here N m G b xs out p l e R s mid args below meth c A H0 Q L st S ad H locs cells slots ls)
    (hst : ∀ v ∈ rest, okV S.1 v) (hy : S.1 ≤ y.2.1) (he : exec N F m (pc + 1) L (push y.1 rest) y.2 = some out) (hn : bpc m (pc + 1) = bpc m pc + 3) {a : Array Value}
    (hr : va_Run p l e R s mid args below meth c H locs cells slots (y.2.1 - S.1) (slN y.2.1 - slN S.1) (F0 mid (bpc m pc) ls (st.map (toV ad))) (rest.map (toV ad)) (QcW N G b xs y ad S H.size a) (va_A (wl G ad S) H.size)) : W p l e R s mid args below meth c H locs cells slots Q (F0 mid (bpc m pc) ls (st.map (toV ad))) := by
  obtain ⟨hm264, hx, hb, hml, hown, hts, hini, hfr, hlo, hGS, hA, hX, hbl, hbA, hTX, hN⟩ := hC
  intro T hT X
  obtain ⟨v, st₀, t, T', L', h0, X', hL', e1, e2, ⟨⟨ad1, hv, hag, hP1, hD1, hrest1, hV⟩, hz, hkk⟩, stp⟩ := hr T hT X
  have hv : v = y.1.map (toV ad1) := by cases hv; rfl
  subst hv
  rw [h0] at hz hkk
  obtain ⟨⟨w1, w2, w3, w4, w5, w6, w7, w8⟩, h2, h3, h4, h5, h6, h7, h8, h9⟩ := hH
  obtain ⟨r1, r2, r3, r4, r5⟩ := hrest1
  have hF : ∀ q, va_A (wl G ad S) H.size q → A q := by
    intro q h
    rcases h with ⟨k, e, h⟩ | h
    · exact w2.2 k (q, e) h
    · exact hA q (Nat.le_trans w3.1 h)
  have hsame : ∀ v, okV S.1 v → toV ad1 v = toV ad v := fun v hv => toV_same hag (r1.trans w4.symm) (fun i hi => (r2 i hi).trans (w5 i hi).symm) hv
  have hmono := exec_n _ _ _ _ _ _ _ he
  have hsl := slN_mono hy
  have hsl2 := slN_mono hmono
  have hS1 : va_S A H0 T'.heap (locs ++ L') := by
    refine ⟨Nat.le_trans w3.1 (by rw [e1]; exact hz), fun q g1 g2 => ?_, fun q hq => ?_⟩
    · rw [e1, hkk q (Nat.lt_of_lt_of_le g1 w3.1) (fun z => g2 (hF q z))]
      exact w3.2.1 q g1 g2
    · rcases List.mem_append.mp hq with h | h
      · exact w3.2.2 q h
      · exact hF _ (hL' q h)
  have k0 := ih (pc + 1) L (push y.1 rest) y.2 ad1 T'.heap (locs ++ L') (cells + (y.2.1 - S.1)) (slots + (slN y.2.1 - slN S.1)) ls he
    ⟨⟨by rw [e1]; exact hP1, hD1.weaken (fun k q _ h => hF q.1 h), hS1, r1, r2, r3, r4, r5⟩, fun v hv => okV_mono hy (h2 v hv), fun v hv => ?_, h4, ⟨h5.1, h5.2.1, fun j v hj hv => ?_⟩, h6, ?_, ?_, ?_⟩
  · obtain ⟨t2, a1, b1⟩ := k0 T' rfl X'
    refine ⟨t2, stp t2 ?_, b1⟩
    have e3 : (push y.1 rest).map (toV ad1) = (y.1.map (toV ad1)).toList ++ rest.map (toV ad) := by
      have e4 : rest.map (toV ad1) = rest.map (toV ad) := List.map_congr_left (fun v hv => hsame v (hst v hv))
      rcases y.1 with _ | v
      · exact e4
      · show toV ad1 v :: rest.map (toV ad1) = toV ad1 v :: rest.map (toV ad)
        rw [e4]
    rw [e3, hn] at a1
    exact a1
  · rcases z : y.1 with _ | u
    · rw [z] at hv
      exact okV_mono hy (hst v hv)
    · rw [z] at hv
      rcases List.mem_cons.mp (show v ∈ u :: rest from hv) with q | q
      · rw [q]; exact hV u z
      · exact okV_mono hy (hst v q)
  · rw [hsame v (h2 v (nth_mem _ _ _ hj))]
    exact h5.2.2 j v hj hv
  · show cells + (y.2.1 - S.1) + out.2.1 ≤ R.cells + y.2.1
    omega
  · show slots + (slN y.2.1 - slN S.1) + slN out.2.1 ≤ R.slots + slN y.2.1
    omega
  · intro ad2 H2 locs2 cells1 slots1 pc1 ls1 hag2 hW2 hc1 hs1 hE hV2
    refine h9 ad2 H2 locs2 cells1 slots1 pc1 ls1 (fun q' hq' => ?_) hW2 ?_ ?_ hE hV2
    · obtain ⟨a, ha, hqa⟩ := hq'
      rw [hag2 q' ⟨a, Nat.lt_of_lt_of_le ha hy, hqa⟩, hag q' ⟨a, ha, hqa⟩]
    · have : cells1 + y.2.1 = cells + (y.2.1 - S.1) + out.2.1 := hc1
      omega
    · have : slots1 + slN y.2.1 = slots + (slN y.2.1 - slN S.1) + slN out.2.1 := hs1
      omega
theorem xcall_t {k : Nat} {inv : Nat → List MV → MS → Option Out} {K : KT (Option Out)} (he : xcall inv k pc L st S K = some out) : ∃ (as rest : List MV) (y : Out), takeR (mArg k) st [] = some (as, rest) ∧ recvOk k as = true ∧ wordsOf rest ≤ 8 ∧ inv k as S = some y ∧ K (pc + 1) L (push y.1 rest) y.2 = some out := by
  unfold xcall at he
  rcases ht : takeR (mArg k) st [] with _ | ⟨as, rest⟩ <;> rw [ht] at he
  · cases he
  dsimp only at he
  rcases g1 : recvOk k as with _ | _ <;> rw [g1] at he
  · cases he
  rw [cond_true] at he
  rcases g2 : Nat.ble (wordsOf rest) 8 with _ | _ <;> rw [g2] at he
  · cases he
  rw [cond_true] at he
  obtain ⟨y, h1, h2⟩ := bnd_some he
  exact ⟨as, rest, y, rfl, g1, Nat.le_of_ble_eq_true g2, h1, h2⟩
theorem nil_sum : 2 * (0 : Nat) = 0 := rfl
theorem s_ics {k : Nat} (hM : MetK N F l) (hC : Cx N m G b xs p R s mid args meth c A H0) (ih : IH N F m G b xs out p l e R s mid args below meth c A H0 Q) (hH : Here N m G b xs out p l e R s mid args below meth c A H0 Q L st S ad H locs cells slots ls)
    {raw : Instr} {len : Nat} (hd : decode (mCode m) (bpc m pc) = .ok (raw, len)) (hn : bpc m (pc + 1) = bpc m pc + len) (hlen : lenOf raw = 0 ∨ len = lenOf raw) (hz : rz m (bpc m pc) raw (.invokestatic k) = true)
    (he : xcall (fun k as S => exec N F k 0 (mkL k as) [] S) k pc L st S (exec N F m) = some out) : W p l e R s mid args below meth c H locs cells slots Q (F0 mid (bpc m pc) ls (st.map (toV ad))) := by
  obtain ⟨as, rest, y, ht, hrv, hwr, hy, he⟩ := xcall_t he
  have hCC := hC
  obtain ⟨hm264, hx, hb, hml, hown, hts, hini, hfr, hlo, hGS, hA, hX, hbl, hbA, hTX, hN⟩ := hC
  obtain ⟨ts, t1, t2, t3⟩ := takeR_spec _ _ _ _ _ ht
  rw [List.append_nil] at t3
  have t4 : ts = as.reverse := by rw [t3, List.reverse_reverse]
  have t5 : as.length = mArg k := by rw [t3, List.length_reverse]; exact t1
  rw [t4] at t2
  have hok : ∀ v ∈ as, okV S.1 v := fun v hv => hH.2.2.1 v (by rw [t2]; exact List.mem_append_left _ (List.mem_reverse.mpr hv))
  have hor : ∀ v ∈ rest, okV S.1 v := fun v hv => hH.2.2.1 v (by rw [t2]; exact List.mem_append_right _ hv)
  have hm1 := exec_n _ _ _ _ _ _ _ hy
  have hm2 := exec_n _ _ _ _ _ _ _ he
  have hs1 := slN_mono hm1
  have hs2 := slN_mono hm2
  unfold rz at hz
  dsimp only at hz
  split at hz
  · rename_i idx
    obtain ⟨h1, h2⟩ := band_t hz
    obtain ⟨h2, h3⟩ := band_t h2
    rcases hlen with h | h
    · cases h
    rw [h] at hd hn
    obtain ⟨k0, kf, kl⟩ := roomOk_t hm264 h2
    have hcells := hH.2.2.2.2.2.2.1
    have hslots := hH.2.2.2.2.2.2.2.1
    have hk : k < 264 := by
      cases z : elem4 (1, mOwn m, idx, k) wcs <;> rw [z] at h3
      · rw [nest_k h3]; decide
      · exact wcs1 z
    obtain ⟨c1, c2, c3, c4⟩ := code_k (args := args) hts k0 hk
    have hpar := mArg_k hk
    rw [h1, cond_true] at hpar
    have hMk := hM k G b xs as S y ad H.size k0 hk hy hrv hok ⟨hH.1.2.2.2.1, hH.1.2.2.2.2.1, hH.1.2.2.2.2.2.1, hH.1.2.2.2.2.2.2.1, hH.1.2.2.2.2.2.2.2⟩ hN
    have hst : st.map (toV ad) = (as.map (toV ad)).reverse ++ rest.map (toV ad) := by rw [t2, List.map_append, List.map_reverse]
    have hmon : 2 * (F0 mid (bpc m pc) ls (st.map (toV ad))).monitorRoom + ((rest.map (toV ad)).map fun v => v.category).sum ≤ 8 := by
      rw [words_eq]
      show 2 * 0 + _ ≤ 8
      omega
    refine go_call hCC ih hH hor hm1 he hn (a := (as.map (toV ad)).toArray) ?_
    cases z : elem4 (1, mOwn m, idx, k) wcs <;> rw [z] at h3
    · rw [cond_false] at h3
      have w4 : (Cond.static (mN k)).before args s = true := by
        rw [nest_k h3]
        have := hts _ (gw_of (q := (4, 149, 0, 0)) (by decide +kernel) rfl)
        rw [wd_4] at this
        exact this
      have w1 := hGS.2.1 _ _ _ h3
      exact va_runSN ⟨hx, hb, hml, hown, hts⟩ hMk ⟨⟨⟨rfl, rfl, by show mFr k + 1 ≤ R.frames; omega, by show 8 + (mMaxL k + 11) + mLo k ≤ R.locals; omega, c1, List.mem_cons_self⟩, c2, c3, c4, parse_len hpar, va_Nw.use rfl w1⟩, w4, trivial⟩ ⟨blindW _, pre_of hCC hH.1 as⟩ rfl (by rw [List.length_map]; exact t5) (hH.2.2.2.2.1.1.trans hH.2.2.2.2.2.1) hst hmon hd ⟨by omega, by omega⟩
    · rw [cond_true] at h3
      have w1 := hts _ (gw_of z rfl)
      have w4 := hts _ (gw_of h3 rfl)
      rw [wd_1] at w1
      rw [wd_4] at w4
      exact va_runS ⟨hx, hb, hml, hown, hts⟩ hMk ⟨⟨rfl, rfl, by show mFr k + 1 ≤ R.frames; omega, by show 8 + (mMaxL k + 11) + mLo k ≤ R.locals; omega, c1, List.mem_cons_self, c2, c3, c4, parse_len hpar, w1⟩, w4⟩ ⟨blindW _, pre_of hCC hH.1 as⟩ rfl (by rw [List.length_map]; exact t5) (hH.2.2.2.2.1.1.trans hH.2.2.2.2.2.1) hst hmon hd ⟨by omega, by omega⟩
  · cases hz
/-- the receiver stands first -/
theorem recv_t {k : Nat} {as : List MV} (h : cond (mSt k) true (recvC k as) = true) (hs : mSt k = false) : ∃ (k' i' : Nat) (as' : List MV), as = .inr (.inr (.inl (k', i'))) :: as' ∧ kCls k' = mCls k := by
  rw [hs, cond_false] at h
  rcases as with _ | ⟨(x | (x | (⟨k', i'⟩ | x))), as'⟩ <;> first | (cases h; done) | skip
  exact ⟨k', i', as', rfl, Nat.eq_of_beq_eq_true h⟩
theorem not_t {x : Bool} (h : cond x false true = true) : x = false := by cases x <;> first | rfl | cases h
theorem s_icv {k : Nat} (hM : MetK N F l) (hC : Cx N m G b xs p R s mid args meth c A H0) (ih : IH N F m G b xs out p l e R s mid args below meth c A H0 Q) (hH : Here N m G b xs out p l e R s mid args below meth c A H0 Q L st S ad H locs cells slots ls)
    {raw : Instr} {len : Nat} (hd : decode (mCode m) (bpc m pc) = .ok (raw, len)) (hn : bpc m (pc + 1) = bpc m pc + len) (hlen : lenOf raw = 0 ∨ len = lenOf raw) (hz : rz m (bpc m pc) raw (.invokevirtual k) = true)
    (he : xcall (fun k as S => exec N F k 0 (mkL k as) [] S) k pc L st S (exec N F m) = some out) : W p l e R s mid args below meth c H locs cells slots Q (F0 mid (bpc m pc) ls (st.map (toV ad))) := by
  obtain ⟨as, rest, y, ht, hrv, hwr, hy, he⟩ := xcall_t he
  have hCC := hC
  obtain ⟨hm264, hx, hb, hml, hown, hts, hini, hfr, hlo, hGS, hA, hX, hbl, hbA, hTX, hN⟩ := hC
  obtain ⟨ts, t1, t2, t3⟩ := takeR_spec _ _ _ _ _ ht
  rw [List.append_nil] at t3
  have t4 : ts = as.reverse := by rw [t3, List.reverse_reverse]
  have t5 : as.length = mArg k := by rw [t3, List.length_reverse]; exact t1
  rw [t4] at t2
  have hok : ∀ v ∈ as, okV S.1 v := fun v hv => hH.2.2.1 v (by rw [t2]; exact List.mem_append_left _ (List.mem_reverse.mpr hv))
  have hor : ∀ v ∈ rest, okV S.1 v := fun v hv => hH.2.2.1 v (by rw [t2]; exact List.mem_append_right _ hv)
  have hm1 := exec_n _ _ _ _ _ _ _ hy
  have hm2 := exec_n _ _ _ _ _ _ _ he
  have hs1 := slN_mono hm1
  have hs2 := slN_mono hm2
  unfold rz at hz
  dsimp only at hz
  split at hz
  · rename_i idx
    obtain ⟨h1, h2⟩ := band_t hz
    obtain ⟨h2, h3⟩ := band_t h2
    obtain ⟨h3, h4⟩ := band_t h3
    obtain ⟨h4, h5⟩ := band_t h4
    obtain ⟨h5, h6⟩ := band_t h5
    obtain ⟨h6, h7⟩ := band_t h6
    have h1 := not_t h1
    have h6 := Nat.eq_of_beq_eq_true h6
    have h7 : mCls k + 1 ≤ 9 := Nat.le_of_ble_eq_true h7
    rcases hlen with h | h
    · cases h
    rw [h] at hd hn
    obtain ⟨k0, kf, kl⟩ := roomOk_t hm264 h2
    have hcells := hH.2.2.2.2.2.2.1
    have hslots := hH.2.2.2.2.2.2.2.1
    have hk : k < 264 := wcs1 h3
    obtain ⟨c1, c2, c3, c4⟩ := code_k (args := args) hts k0 hk
    have hpar := mArg_k hk
    rw [h1, cond_false] at hpar
    have hMk := hM k G b xs as S y ad H.size k0 hk hy hrv hok ⟨hH.1.2.2.2.1, hH.1.2.2.2.2.1, hH.1.2.2.2.2.2.1, hH.1.2.2.2.2.2.2.1, hH.1.2.2.2.2.2.2.2⟩ hN
    have hmon : 2 * (F0 mid (bpc m pc) ls (st.map (toV ad))).monitorRoom + ((rest.map (toV ad)).map fun v => v.category).sum ≤ 8 := by
      rw [words_eq]
      show 2 * 0 + _ ≤ 8
      omega
    obtain ⟨k', i', as', ha, hc'⟩ := recv_t (argOk_t hrv).2.2 h1
    subst ha
    have hst : st.map (toV ad) = (as'.map (toV ad)).reverse ++ .ref (ad k' i') :: rest.map (toV ad) := by
      rw [t2, List.map_append, List.map_reverse, List.map_cons, List.reverse_cons, List.append_assoc]
      rfl
    obtain ⟨a9, ha9, ho9⟩ := vld_obj (okh hok) (by omega)
    have h0 : kTag k' = 0 := (ords_kd ho9).2.2.2.2.2 (by dsimp only; omega)
    have hw9 := wl_at (G := G) (ad := ad) ha9 ho9
    rw [ent_0 h0] at hw9
    have w1 := hts _ (gw_of h3 rfl)
    have w2 := hts _ (gw_of h4 rfl)
    rw [wd_1] at w1
    rw [wd_2] at w2
    have w3 : (Cond.selects (cN (mOwn k)) (mN k) (mN k)).before args s = true := by
      cases z : elem4 (13, k, 0, 0) wcs <;> rw [z] at h5
      · exact hts _ (gw_sel (elemN_in _ _ h5))
      · have := hts _ (gw_of z rfl)
        rw [wd_13] at this
        exact this
    refine go_call hCC ih hH hor hm1 he hn (a := (Value.ref (ad k' i') :: as'.map (toV ad)).toArray) ?_
    refine va_runV (C := cN (mOwn k)) ⟨hx, hb, hml, hown, hts⟩ hMk ⟨⟨rfl, rfl, by show mFr k + 1 ≤ R.frames; omega, by show 8 + (mMaxL k + 11) + mLo k ≤ R.locals; omega, c1, List.mem_cons_self, c2, c3, c4, parse_len hpar, w1⟩, w2, w3⟩ ⟨blindW _, ?_, pre_of hCC hH.1 (.inr (.inr (.inl (k', i'))) :: as')⟩ rfl (by rw [List.length_map]; rw [List.length_cons] at t5; omega) (hH.2.2.2.2.1.1.trans hH.2.2.2.2.2.1) hst hmon hd ⟨by omega, by omega⟩
    have hc9 := cls_at (ci := kCls k') (by omega)
    have hr9 := va_recv hGS.1 hH.1.1 hc9 hw9
    rw [hc', ← h6] at hr9
    exact hr9
  · cases hz
theorem s_ici {k : Nat} (hM : MetK N F l) (hC : Cx N m G b xs p R s mid args meth c A H0) (ih : IH N F m G b xs out p l e R s mid args below meth c A H0 Q) (hH : Here N m G b xs out p l e R s mid args below meth c A H0 Q L st S ad H locs cells slots ls)
    {raw : Instr} {len : Nat} (hd : decode (mCode m) (bpc m pc) = .ok (raw, len)) (hn : bpc m (pc + 1) = bpc m pc + len) (hlen : lenOf raw = 0 ∨ len = lenOf raw) (hz : rz m (bpc m pc) raw (.invokespecial k) = true)
    (he : xcall (fun k as S => exec N F k 0 (mkL k as) [] S) k pc L st S (exec N F m) = some out) : W p l e R s mid args below meth c H locs cells slots Q (F0 mid (bpc m pc) ls (st.map (toV ad))) := by
  obtain ⟨as, rest, y, ht, hrv, hwr, hy, he⟩ := xcall_t he
  have hCC := hC
  obtain ⟨hm264, hx, hb, hml, hown, hts, hini, hfr, hlo, hGS, hA, hX, hbl, hbA, hTX, hN⟩ := hC
  obtain ⟨ts, t1, t2, t3⟩ := takeR_spec _ _ _ _ _ ht
  rw [List.append_nil] at t3
  have t4 : ts = as.reverse := by rw [t3, List.reverse_reverse]
  have t5 : as.length = mArg k := by rw [t3, List.length_reverse]; exact t1
  rw [t4] at t2
  have hok : ∀ v ∈ as, okV S.1 v := fun v hv => hH.2.2.1 v (by rw [t2]; exact List.mem_append_left _ (List.mem_reverse.mpr hv))
  have hor : ∀ v ∈ rest, okV S.1 v := fun v hv => hH.2.2.1 v (by rw [t2]; exact List.mem_append_right _ hv)
  have hm1 := exec_n _ _ _ _ _ _ _ hy
  have hm2 := exec_n _ _ _ _ _ _ _ he
  have hs1 := slN_mono hm1
  have hs2 := slN_mono hm2
  unfold rz at hz
  dsimp only at hz
  split at hz
  · rename_i idx
    obtain ⟨h1, h2⟩ := band_t hz
    obtain ⟨h2, h3⟩ := band_t h2
    obtain ⟨h3, h4⟩ := band_t h3
    obtain ⟨h4, h5⟩ := band_t h4
    obtain ⟨h5, h6⟩ := band_t h5
    have h1 := not_t h1
    have h6 := Nat.eq_of_beq_eq_true h6
    rcases hlen with h | h
    · cases h
    rw [h] at hd hn
    obtain ⟨k0, kf, kl⟩ := roomOk_t hm264 h2
    have hcells := hH.2.2.2.2.2.2.1
    have hslots := hH.2.2.2.2.2.2.2.1
    have hk : k < 264 := wcs1 h3
    obtain ⟨c1, c2, c3, c4⟩ := code_k (args := args) hts k0 hk
    have hpar := mArg_k hk
    rw [h1, cond_false] at hpar
    have hMk := hM k G b xs as S y ad H.size k0 hk hy hrv hok ⟨hH.1.2.2.2.1, hH.1.2.2.2.2.1, hH.1.2.2.2.2.2.1, hH.1.2.2.2.2.2.2.1, hH.1.2.2.2.2.2.2.2⟩ hN
    have hmon : 2 * (F0 mid (bpc m pc) ls (st.map (toV ad))).monitorRoom + ((rest.map (toV ad)).map fun v => v.category).sum ≤ 8 := by
      rw [words_eq]
      show 2 * 0 + _ ≤ 8
      omega
    obtain ⟨k', i', as', ha, hc'⟩ := recv_t (argOk_t hrv).2.2 h1
    subst ha
    have hst : st.map (toV ad) = (as'.map (toV ad)).reverse ++ .ref (ad k' i') :: rest.map (toV ad) := by
      rw [t2, List.map_append, List.map_reverse, List.map_cons, List.reverse_cons, List.append_assoc]
      rfl
    have w1 := hts _ (gw_of h3 rfl)
    have w2 := hts _ (gw_of h4 rfl)
    rw [wd_1] at w1
    rw [wd_2] at w2
    have hrt : mRetT k = none := ret0 (by have := mRet_k hk; rw [h6] at this; exact this)
    rw [hrt] at c2
    refine go_call hCC ih hH hor hm1 he hn (a := (Value.ref (ad k' i') :: as'.map (toV ad)).toArray) ?_
    exact va_runI ⟨hx, hb, hml, hown, hts⟩ hMk ⟨⟨rfl, rfl, by show mFr k + 1 ≤ R.frames; omega, by show 8 + (mMaxL k + 11) + mLo k ≤ R.locals; omega, c1, by rw [← hrt]; exact List.mem_cons_self, c2, c3, c4, parse_len hpar, w1⟩, mInit_nm k hk h5, w2⟩ ⟨blindW _, pre_of hCC hH.1 (.inr (.inr (.inl (k', i'))) :: as')⟩ rfl (by rw [List.length_map]; rw [List.length_cons] at t5; omega) (hH.2.2.2.2.1.1.trans hH.2.2.2.2.2.1) hst hmon hd ⟨by omega, by omega⟩
  · cases hz
end WALK
end
section
/-! THE JDK'S OWN METHODS of texts: length, charAt -/
def jyCoder : MethodName := ⟨"java/lang/String", "coder", "()B"⟩
def jyLen : MethodName := ⟨"java/lang/String", "length", "()I"⟩
def jyLatin : MethodName := ⟨"java/lang/String", "isLatin1", "()Z"⟩
def jyChr : MethodName := ⟨"java/lang/String", "charAt", "(I)C"⟩
def jyLchr : MethodName := ⟨"java/lang/StringLatin1", "charAt", "([BI)C"⟩
def jyChk : MethodName := ⟨"java/lang/String", "checkIndex", "(II)V"⟩
def jyPchk : MethodName := ⟨"jdk/internal/util/Preconditions", "checkIndex", "(IILjava/util/function/BiFunction;)I"⟩
theorem jwg (j : Nat) (h : elem4 (40, j, 0, 0) wcs = true) : jw j ∈ gw := gw_of (q := (40, j, 0, 0)) h rfl
theorem jg_0 : Cond.fieldLink "java/lang/String" 9 "java/lang/String" "value" "[B" ∈ gw := jwg 0 (by decide +kernel)
theorem jg_1 : Cond.fieldLink "java/lang/String" 15 "java/lang/String" "coder" "B" ∈ gw := jwg 1 (by decide +kernel)
theorem jg_2 : Cond.fieldLink "java/lang/String" 38 "java/lang/String" "COMPACT_STRINGS" "Z" ∈ gw := jwg 2 (by decide +kernel)
theorem jg_3 : Cond.methodLink "java/lang/String" 335 jyCoder ∈ gw := jwg 3 (by decide +kernel)
theorem jg_4 : Cond.instanceMethod jyCoder ∈ gw := jwg 4 (by decide +kernel)
theorem jg_5 : Cond.selects "java/lang/String" jyCoder jyCoder ∈ gw := jwg 5 (by decide +kernel)
theorem jg_6 : Cond.code jyCoder jcCoder 1 (some .byte) ∈ gw := jwg 6 (by decide +kernel)
theorem jg_7 : Cond.instanceMethod jyLen ∈ gw := jwg 7 (by decide +kernel)
theorem jg_8 : Cond.selects "java/lang/String" jyLen jyLen ∈ gw := jwg 8 (by decide +kernel)
theorem jg_9 : Cond.code jyLen jcLen 1 (some .int) ∈ gw := jwg 9 (by decide +kernel)
theorem jg_10 : Cond.methodLink "java/lang/String" 492 jyLatin ∈ gw := jwg 10 (by decide +kernel)
theorem jg_11 : Cond.instanceMethod jyLatin ∈ gw := jwg 11 (by decide +kernel)
theorem jg_12 : Cond.selects "java/lang/String" jyLatin jyLatin ∈ gw := jwg 12 (by decide +kernel)
theorem jg_13 : Cond.code jyLatin jcLatin 1 (some .boolean) ∈ gw := jwg 13 (by decide +kernel)
theorem jg_14 : Cond.instanceMethod jyChr ∈ gw := jwg 14 (by decide +kernel)
theorem jg_15 : Cond.selects "java/lang/String" jyChr jyChr ∈ gw := jwg 15 (by decide +kernel)
theorem jg_16 : Cond.code jyChr jcChr 2 (some .char) ∈ gw := jwg 16 (by decide +kernel)
theorem jg_17 : Cond.methodLink "java/lang/String" 495 jyLchr ∈ gw := jwg 17 (by decide +kernel)
theorem jg_18 : Cond.static jyLchr ∈ gw := jwg 18 (by decide +kernel)
theorem jg_19 : Cond.code jyLchr jcLchr 2 (some .char) ∈ gw := jwg 19 (by decide +kernel)
theorem jg_20 : Cond.methodLink "java/lang/StringLatin1" 9 jyChk ∈ gw := jwg 20 (by decide +kernel)
theorem jg_21 : Cond.static jyChk ∈ gw := jwg 21 (by decide +kernel)
theorem jg_22 : Cond.code jyChk jcChk 2 none ∈ gw := jwg 22 (by decide +kernel)
theorem jg_23 : Cond.fieldLink "java/lang/String" 1053 "jdk/internal/util/Preconditions" "SIOOBE_FORMATTER" "Ljava/util/function/BiFunction;" ∈ gw := jwg 23 (by decide +kernel)
theorem jg_24 : Cond.methodLink "java/lang/String" 1059 jyPchk ∈ gw := jwg 24 (by decide +kernel)
theorem jg_25 : Cond.static jyPchk ∈ gw := jwg 25 (by decide +kernel)
theorem jg_26 : Cond.code jyPchk jcPchk 3 (some .int) ∈ gw := jwg 26 (by decide +kernel)
theorem ji_0 : Cond.initialized "java/lang/String" ∈ gw := gw_of (q := (8, 55, 0, 0)) (by decide +kernel) rfl
theorem ji_1 : Cond.initialized "java/lang/StringLatin1" ∈ gw := gw_of (q := (8, 56, 0, 0)) (by decide +kernel) rfl
theorem ji_2 : Cond.initialized "jdk/internal/util/Preconditions" ∈ gw := gw_of (q := (8, 57, 0, 0)) (by decide +kernel) rfl
theorem jd_coder_0 : decode jcCoder 0 = .ok (.getstatic 38, 3) := by decide +kernel
theorem jd_coder_3 : decode jcCoder 3 = .ok (.ifCond .eq 10, 3) := by decide +kernel
theorem jd_coder_6 : decode jcCoder 6 = .ok (.aload_n 0, 1) := by decide +kernel
theorem jd_coder_7 : decode jcCoder 7 = .ok (.getfield 15, 3) := by decide +kernel
theorem jd_coder_10 : decode jcCoder 10 = .ok (.goto 4, 3) := by decide +kernel
theorem jd_coder_14 : decode jcCoder 14 = .ok (.ireturn, 1) := by decide +kernel
theorem jd_latin_0 : decode jcLatin 0 = .ok (.getstatic 38, 3) := by decide +kernel
theorem jd_latin_3 : decode jcLatin 3 = .ok (.ifCond .eq 14, 3) := by decide +kernel
theorem jd_latin_6 : decode jcLatin 6 = .ok (.aload_n 0, 1) := by decide +kernel
theorem jd_latin_7 : decode jcLatin 7 = .ok (.getfield 15, 3) := by decide +kernel
theorem jd_latin_10 : decode jcLatin 10 = .ok (.ifCond .ne 7, 3) := by decide +kernel
theorem jd_latin_13 : decode jcLatin 13 = .ok (.iconst 1, 1) := by decide +kernel
theorem jd_latin_14 : decode jcLatin 14 = .ok (.goto 4, 3) := by decide +kernel
theorem jd_latin_18 : decode jcLatin 18 = .ok (.ireturn, 1) := by decide +kernel
theorem jd_len_0 : decode jcLen 0 = .ok (.aload_n 0, 1) := by decide +kernel
theorem jd_len_1 : decode jcLen 1 = .ok (.getfield 9, 3) := by decide +kernel
theorem jd_len_4 : decode jcLen 4 = .ok (.arraylength, 1) := by decide +kernel
theorem jd_len_5 : decode jcLen 5 = .ok (.aload_n 0, 1) := by decide +kernel
theorem jd_len_6 : decode jcLen 6 = .ok (.invokevirtual 335, 3) := by decide +kernel
theorem jd_len_9 : decode jcLen 9 = .ok (.ishr, 1) := by decide +kernel
theorem jd_len_10 : decode jcLen 10 = .ok (.ireturn, 1) := by decide +kernel
theorem jd_pchk_0 : decode jcPchk 0 = .ok (.iload_n 0, 1) := by decide +kernel
theorem jd_pchk_1 : decode jcPchk 1 = .ok (.ifCond .lt 8, 3) := by decide +kernel
theorem jd_pchk_4 : decode jcPchk 4 = .ok (.iload_n 0, 1) := by decide +kernel
theorem jd_pchk_5 : decode jcPchk 5 = .ok (.iload_n 1, 1) := by decide +kernel
theorem jd_pchk_6 : decode jcPchk 6 = .ok (.if_icmp .lt 10, 3) := by decide +kernel
theorem jd_pchk_16 : decode jcPchk 16 = .ok (.iload_n 0, 1) := by decide +kernel
theorem jd_pchk_17 : decode jcPchk 17 = .ok (.ireturn, 1) := by decide +kernel
theorem jd_chk_0 : decode jcChk 0 = .ok (.iload_n 0, 1) := by decide +kernel
theorem jd_chk_1 : decode jcChk 1 = .ok (.iload_n 1, 1) := by decide +kernel
theorem jd_chk_2 : decode jcChk 2 = .ok (.getstatic 1053, 3) := by decide +kernel
theorem jd_chk_5 : decode jcChk 5 = .ok (.invokestatic 1059, 3) := by decide +kernel
theorem jd_chk_8 : decode jcChk 8 = .ok (.pop, 1) := by decide +kernel
theorem jd_chk_9 : decode jcChk 9 = .ok (.return_, 1) := by decide +kernel
theorem jd_lchr_0 : decode jcLchr 0 = .ok (.iload_n 1, 1) := by decide +kernel
theorem jd_lchr_1 : decode jcLchr 1 = .ok (.aload_n 0, 1) := by decide +kernel
theorem jd_lchr_2 : decode jcLchr 2 = .ok (.arraylength, 1) := by decide +kernel
theorem jd_lchr_3 : decode jcLchr 3 = .ok (.invokestatic 9, 3) := by decide +kernel
theorem jd_lchr_6 : decode jcLchr 6 = .ok (.aload_n 0, 1) := by decide +kernel
theorem jd_lchr_7 : decode jcLchr 7 = .ok (.iload_n 1, 1) := by decide +kernel
theorem jd_lchr_8 : decode jcLchr 8 = .ok (.baload, 1) := by decide +kernel
theorem jd_lchr_9 : decode jcLchr 9 = .ok (.sipush 255, 3) := by decide +kernel
theorem jd_lchr_12 : decode jcLchr 12 = .ok (.iand, 1) := by decide +kernel
theorem jd_lchr_13 : decode jcLchr 13 = .ok (.i2c, 1) := by decide +kernel
theorem jd_lchr_14 : decode jcLchr 14 = .ok (.ireturn, 1) := by decide +kernel
theorem jd_chr_0 : decode jcChr 0 = .ok (.aload_n 0, 1) := by decide +kernel
theorem jd_chr_1 : decode jcChr 1 = .ok (.invokevirtual 492, 3) := by decide +kernel
theorem jd_chr_4 : decode jcChr 4 = .ok (.ifCond .eq 12, 3) := by decide +kernel
theorem jd_chr_7 : decode jcChr 7 = .ok (.aload_n 0, 1) := by decide +kernel
theorem jd_chr_8 : decode jcChr 8 = .ok (.getfield 9, 3) := by decide +kernel
theorem jd_chr_11 : decode jcChr 11 = .ok (.iload_n 1, 1) := by decide +kernel
theorem jd_chr_12 : decode jcChr 12 = .ok (.invokestatic 495, 3) := by decide +kernel
theorem jd_chr_15 : decode jcChr 15 = .ok (.ireturn, 1) := by decide +kernel
def wsj (y : MethodName) (cc : ByteArray) (n : Nat) (r : Option FieldType) : List Cond := Cond.code y cc n r :: gw
theorem wsj_warm {y : MethodName} {cc : ByteArray} {n : Nat} {r : Option FieldType} {args : Array Value} {s : State} (hts : ∀ w ∈ gw, w.before args s = true) (h : Cond.code y cc n r ∈ gw) : ∀ w ∈ wsj y cc n r, ∀ (a' : Array Value) (U : State), s.WarmedH U.vm → w.before a' U = true := by
  refine pay_in hts (fun w hw => ?_)
  rcases List.mem_cons.mp hw with e | e
  · rw [e]; exact gw_GoodIn _ h
  · exact gw_GoodIn w e
def PreJ (G : GT) (sz : Nat) (U : State) : Prop := U.heap.size = sz ∧ TXc G (va_A [] sz) U U.heap
theorem blindJ {G : GT} {sz : Nat} (vs : List Value) : FrameBlind (va_Pc vs (PreJ G sz)) := by
  intro a U g mk q
  obtain ⟨q0, q1, q2⟩ := q
  exact ⟨q0, q1, TXc.moved (Vm.Alike.refl U.vm) q2⟩
abbrev jrm (f w : Nat) : Room := { frames := f, cells := 0, slots := 0, locals := w }
abbrev jQi (r0 : Int32) (sz : Nat) : Array Value → State → Outcome → State → Prop := va_Qi (fun (r : Int32) (_ : Unit) => r = r0) (fun _ _ => True) (va_A [] sz)
theorem preJ {G : GT} {s : State} {sz : Nat} {A : Nat → Prop} {vs : List Value} (hA : ∀ q, va_A [] sz q → A q) (hsz : s.heap.size = sz) (hTX : TXc G A s s.heap) : ∀ U : State, U.heap = s.heap → s.WarmedH U.vm → va_Pc vs (PreJ G sz) vs.toArray U := by
  intro U hU hW
  exact ⟨rfl, by rw [hU]; exact hsz, by rw [hU]; exact TXc.moved hW.alike (hTX.narrow hA)⟩
theorem chr_all : allR (fun i => allR (fun j => decide (((((bytS.getD i []).getD j 0) &&& 255).toUInt32 % 65536).toInt32 = Int32.ofInt (sChr i j) ∧ ((Int32.ofInt (sChr i j)).toUInt32 % 65536).toInt32 = Int32.ofInt (sChr i j))) 0 (lenS.getD i 0)) 0 16 = true := by decide +kernel
theorem len_all : allR (fun i => decide (Int32.ofNat (lenS.getD i 0) >>> ((0 : Int32) &&& 31) = Int32.ofInt (sLen i) ∧ sLen i = (lenS.getD i 0 : Int) ∧ lenS.getD i 0 < 100)) 0 16 = true := by decide +kernel
theorem recvT {a : Nat} {A : Nat → Prop} {s : State} {H : Heap} (h : va_O "java/lang/String" a A s H) : ∃ cell : Cell, H[a]? = some cell ∧ cell.vm.isStatics = false ∧ s.vm.findClass "java/lang/String" = some cell.cls := by
  obtain ⟨cell, h1, h2, h3, -⟩ := h
  exact ⟨cell, h1, h2, h3⟩
def PreL (G : GT) (i a sz : Nat) (U : State) : Prop := PreJ G sz U ∧ va_T .byte a (lenS.getD i 0) (fun j => .int ((bytS.getD i []).getD j 0)) (va_A [] sz) U U.heap
theorem blindL {G : GT} {i a sz : Nat} (vs : List Value) : FrameBlind (va_Pc vs (PreL G i a sz)) := by
  intro a' U g mk q
  obtain ⟨q0, ⟨q1, q2⟩, q3⟩ := q
  exact ⟨q0, ⟨q1, TXc.moved (Vm.Alike.refl U.vm) q2⟩, va_T.moved (Vm.Alike.refl U.vm) q3⟩
theorem jA {n n1 : Nat} (h : n ≤ n1) : ∀ q, va_A [] n1 q → va_A [] n q := by
  intro q hq
  rcases hq with ⟨k, e, hq⟩ | hq
  · simp at hq
  · exact Or.inr (Nat.le_trans h hq)
section JDK
variable {l : Launch} {G : GT} {sz i : Nat}

theorem j_coder (l : Launch) (G : GT) (sz : Nat) {i : Nat} (hi : i < 16) : Met l jyCoder (wsj jyCoder jcCoder 1 (some .byte)) (jrm 0 0) (va_Pc [.ref (G.2.2 i)] (PreJ G sz)) (jQi 0 sz) 0 0 (va_A [] sz) := by
  refine Met.ofW (cc := jcCoder) (maxL := 1) (ret := (some .byte)) (by decide) rfl ?_
  intro p e s m args below meth c s₁ B hml hv
  obtain ⟨rfl, hsz, hTX⟩ := hv
  have hx := B.exec
  have hb := B.bytes
  have hr := B.returns
  have hts0 := atoms_spec (ws := wsj jyCoder jcCoder 1 (some .byte)) B.pre
  have hts : ∀ w ∈ gw, w.before _ s = true := fun w hw => hts0 w (List.mem_cons_of_mem _ hw)
  have hown : s.vm.findClass "java/lang/String" = some m.cls := findClass_of_methodNamed B.named
  have hlocks := B.notSynchronized
  subst hsz
  have hl := lv_entry ([.ref (G.2.2 i)]) (n := 1) (Nat.le_of_ble_eq_true rfl)
  rw [lg_entry_eq]
  generalize (lg_sl ([.ref (G.2.2 i)]) ++ List.replicate (1 - (lg_sl ([.ref (G.2.2 i)])).length) Slot.unset).toArray = ls at hl ⊢
  have hl : lv_has ls 1 [(0, .ref (G.2.2 i))] := hl
  have hS : va_S (va_A [] s.heap.size) s.heap s.heap [] := va_S.rf
  have hTX0 := hTX
  obtain ⟨⟨adV, hV⟩, hZ, hZq⟩ := hTX
  obtain ⟨hO, hF1, hF2, hT⟩ := hV i hi
  refine va_gets hx hb hZ hS hown (hts _ jg_2) (fun _ h => h) jd_coder_0 ?_
  refine lv_if_eq (tgt := 13) hx hb jd_coder_3 (by decide) (fun h => absurd h (by decide)) (fun _ => ?_)
  refine lv_aload_n hx hb jd_coder_6 rfl (lv_at hl 0 rfl) ?_
  refine vk_getf hx hb hF1 hS hown (hts _ jg_1) (fun _ h => h) jd_coder_7 ?_
  refine lv_goto (tgt := 14) hx hb jd_coder_10 (by decide) ?_
  exact W.zret hx hb hr rfl (fun t ht _ => ⟨⟨0, (), rfl, rfl, trivial⟩, hS.F ht⟩) hS.2.2 jd_coder_14

theorem j_latin (l : Launch) (G : GT) (sz : Nat) {i : Nat} (hi : i < 16) : Met l jyLatin (wsj jyLatin jcLatin 1 (some .boolean)) (jrm 0 0) (va_Pc [.ref (G.2.2 i)] (PreJ G sz)) (jQi 1 sz) 0 0 (va_A [] sz) := by
  refine Met.ofW (cc := jcLatin) (maxL := 1) (ret := (some .boolean)) (by decide) rfl ?_
  intro p e s m args below meth c s₁ B hml hv
  obtain ⟨rfl, hsz, hTX⟩ := hv
  have hx := B.exec
  have hb := B.bytes
  have hr := B.returns
  have hts0 := atoms_spec (ws := wsj jyLatin jcLatin 1 (some .boolean)) B.pre
  have hts : ∀ w ∈ gw, w.before _ s = true := fun w hw => hts0 w (List.mem_cons_of_mem _ hw)
  have hown : s.vm.findClass "java/lang/String" = some m.cls := findClass_of_methodNamed B.named
  have hlocks := B.notSynchronized
  subst hsz
  have hl := lv_entry ([.ref (G.2.2 i)]) (n := 1) (Nat.le_of_ble_eq_true rfl)
  rw [lg_entry_eq]
  generalize (lg_sl ([.ref (G.2.2 i)]) ++ List.replicate (1 - (lg_sl ([.ref (G.2.2 i)])).length) Slot.unset).toArray = ls at hl ⊢
  have hl : lv_has ls 1 [(0, .ref (G.2.2 i))] := hl
  have hS : va_S (va_A [] s.heap.size) s.heap s.heap [] := va_S.rf
  have hTX0 := hTX
  obtain ⟨⟨adV, hV⟩, hZ, hZq⟩ := hTX
  obtain ⟨hO, hF1, hF2, hT⟩ := hV i hi
  refine va_gets hx hb hZ hS hown (hts _ jg_2) (fun _ h => h) jd_latin_0 ?_
  refine lv_if_eq (tgt := 17) hx hb jd_latin_3 (by decide) (fun h => absurd h (by decide)) (fun _ => ?_)
  refine lv_aload_n hx hb jd_latin_6 rfl (lv_at hl 0 rfl) ?_
  refine vk_getf hx hb hF1 hS hown (hts _ jg_1) (fun _ h => h) jd_latin_7 ?_
  refine lv_if_ne (tgt := 17) hx hb jd_latin_10 (by decide) (fun h => absurd rfl h) (fun _ => ?_)
  refine lv_iconst (v := 1) hx hb jd_latin_13 (by decide) ?_
  refine lv_goto (tgt := 18) hx hb jd_latin_14 (by decide) ?_
  exact W.zret hx hb hr rfl (fun t ht _ => ⟨⟨1, (), rfl, rfl, trivial⟩, hS.F ht⟩) hS.2.2 jd_latin_18

theorem j_len (l : Launch) (G : GT) (sz : Nat) {i : Nat} (hi : i < 16) : Met l jyLen (wsj jyLen jcLen 1 (some .int)) (jrm 1 20) (va_Pc [.ref (G.2.2 i)] (PreJ G sz)) (jQi (Int32.ofInt (sLen i)) sz) 0 0 (va_A [] sz) := by
  refine Met.ofW (cc := jcLen) (maxL := 1) (ret := (some .int)) (by decide) rfl ?_
  intro p e s m args below meth c s₁ B hml hv
  obtain ⟨rfl, hsz, hTX⟩ := hv
  have hx := B.exec
  have hb := B.bytes
  have hr := B.returns
  have hts0 := atoms_spec (ws := wsj jyLen jcLen 1 (some .int)) B.pre
  have hts : ∀ w ∈ gw, w.before _ s = true := fun w hw => hts0 w (List.mem_cons_of_mem _ hw)
  have hown : s.vm.findClass "java/lang/String" = some m.cls := findClass_of_methodNamed B.named
  have hlocks := B.notSynchronized
  subst hsz
  have hl := lv_entry ([.ref (G.2.2 i)]) (n := 1) (Nat.le_of_ble_eq_true rfl)
  rw [lg_entry_eq]
  generalize (lg_sl ([.ref (G.2.2 i)]) ++ List.replicate (1 - (lg_sl ([.ref (G.2.2 i)])).length) Slot.unset).toArray = ls at hl ⊢
  have hl : lv_has ls 1 [(0, .ref (G.2.2 i))] := hl
  have hS : va_S (va_A [] s.heap.size) s.heap s.heap [] := va_S.rf
  have hTX0 := hTX
  obtain ⟨⟨adV, hV⟩, hZ, hZq⟩ := hTX
  obtain ⟨hO, hF1, hF2, hT⟩ := hV i hi
  refine lv_aload_n hx hb jd_len_0 rfl (lv_at hl 0 rfl) ?_
  refine vk_getf hx hb hF2 hS hown (hts _ jg_0) (fun _ h => h) jd_len_1 ?_
  refine va_tlen hx hb hT hS rfl jd_len_4 ?_
  refine lv_aload_n hx hb jd_len_5 rfl (lv_at hl 0 rfl) ?_
  refine va_calli (va_runV (C := "java/lang/String") (As := []) (rest := [.int (Int32.ofNat (lenS.getD i 0))]) ⟨hx, hb, hml, hown, hts⟩ (j_coder l G s.heap.size hi) ⟨⟨rfl, rfl, Nat.le_of_ble_eq_true rfl, Nat.le_of_ble_eq_true rfl, wsj_warm hts jg_6, List.mem_cons_self, hts _ jg_6, hts _ ji_0, by decide, parse_len (n := 0) (by decide +kernel), hts _ jg_3⟩, hts _ jg_4, hts _ jg_5⟩ ⟨blindJ _, recvT hO, preJ (fun _ h => h) rfl hTX0⟩ rfl rfl hl.1 rfl (lv_room (Nat.le_of_ble_eq_true rfl)) jd_len_6 ⟨Nat.zero_le _, Nat.zero_le _⟩) hS (fun q _ h => h) (fun q h => h) (fun r u t H1 locs1 ht hvm hw hB hz1 hk1 hS => ?_)
  refine lv_ishr hx hb jd_len_9 ?_
  have e1 := (of_decide_eq_true (allR_at 16 0 i len_all (by omega) (by omega))).1
  rw [hw, e1]
  exact W.iret hx hb hr (fun t ht _ => ⟨⟨_, (), rfl, rfl, trivial⟩, hS.F ht⟩) hS.2.2 jd_len_10

theorem j_pchkN (l : Launch) (G : GT) (sz : Nat) {a n : Int32} (ha : ¬ a < 0) (hn : a < n) : Met l jyPchk (wsj jyPchk jcPchk 3 (some .int)) (jrm 0 0) (va_Pc [.int a, .int n, .null] (PreJ G sz)) (jQi a sz) 0 0 (va_A [] sz) := by
  refine Met.ofW (cc := jcPchk) (maxL := 3) (ret := (some .int)) (by decide) rfl ?_
  intro p e s m args below meth c s₁ B hml hv
  obtain ⟨rfl, hsz, hTX⟩ := hv
  have hx := B.exec
  have hb := B.bytes
  have hr := B.returns
  have hts0 := atoms_spec (ws := wsj jyPchk jcPchk 3 (some .int)) B.pre
  have hts : ∀ w ∈ gw, w.before _ s = true := fun w hw => hts0 w (List.mem_cons_of_mem _ hw)
  have hown : s.vm.findClass "jdk/internal/util/Preconditions" = some m.cls := findClass_of_methodNamed B.named
  have hlocks := B.notSynchronized
  subst hsz
  have hl := lv_entry ([.int a, .int n, .null]) (n := 3) (Nat.le_of_ble_eq_true rfl)
  rw [lg_entry_eq]
  generalize (lg_sl ([.int a, .int n, .null]) ++ List.replicate (3 - (lg_sl ([.int a, .int n, .null])).length) Slot.unset).toArray = ls at hl ⊢
  have hl : lv_has ls 3 [(0, .int a), (1, .int n), (2, .null)] := hl
  have hS : va_S (va_A [] s.heap.size) s.heap s.heap [] := va_S.rf
  have hTX0 := hTX
  obtain ⟨⟨adV, hV⟩, hZ, hZq⟩ := hTX
  refine lv_iload_n hx hb jd_pchk_0 rfl (lv_at hl 0 rfl) ?_
  refine lv_if_lt (tgt := 9) hx hb jd_pchk_1 (by decide) (fun h => absurd h ha) (fun _ => ?_)
  refine lv_iload_n hx hb jd_pchk_4 rfl (lv_at hl 0 rfl) ?_
  refine lv_iload_n hx hb jd_pchk_5 rfl (lv_at hl 1 rfl) ?_
  refine lv_icmp_lt (tgt := 16) hx hb jd_pchk_6 (by decide) (fun _ => ?_) (fun h => absurd hn h)
  refine lv_iload_n hx hb jd_pchk_16 rfl (lv_at hl 0 rfl) ?_
  exact W.iret hx hb hr (fun t ht _ => ⟨⟨_, (), rfl, rfl, trivial⟩, hS.F ht⟩) hS.2.2 jd_pchk_17

theorem j_pchkR (l : Launch) (G : GT) (sz : Nat) {a n : Int32} {t0 : Nat} (ha : ¬ a < 0) (hn : a < n) : Met l jyPchk (wsj jyPchk jcPchk 3 (some .int)) (jrm 0 0) (va_Pc [.int a, .int n, .ref t0] (PreJ G sz)) (jQi a sz) 0 0 (va_A [] sz) := by
  refine Met.ofW (cc := jcPchk) (maxL := 3) (ret := (some .int)) (by decide) rfl ?_
  intro p e s m args below meth c s₁ B hml hv
  obtain ⟨rfl, hsz, hTX⟩ := hv
  have hx := B.exec
  have hb := B.bytes
  have hr := B.returns
  have hts0 := atoms_spec (ws := wsj jyPchk jcPchk 3 (some .int)) B.pre
  have hts : ∀ w ∈ gw, w.before _ s = true := fun w hw => hts0 w (List.mem_cons_of_mem _ hw)
  have hown : s.vm.findClass "jdk/internal/util/Preconditions" = some m.cls := findClass_of_methodNamed B.named
  have hlocks := B.notSynchronized
  subst hsz
  have hl := lv_entry ([.int a, .int n, .ref t0]) (n := 3) (Nat.le_of_ble_eq_true rfl)
  rw [lg_entry_eq]
  generalize (lg_sl ([.int a, .int n, .ref t0]) ++ List.replicate (3 - (lg_sl ([.int a, .int n, .ref t0])).length) Slot.unset).toArray = ls at hl ⊢
  have hl : lv_has ls 3 [(0, .int a), (1, .int n), (2, .ref t0)] := hl
  have hS : va_S (va_A [] s.heap.size) s.heap s.heap [] := va_S.rf
  have hTX0 := hTX
  obtain ⟨⟨adV, hV⟩, hZ, hZq⟩ := hTX
  refine lv_iload_n hx hb jd_pchk_0 rfl (lv_at hl 0 rfl) ?_
  refine lv_if_lt (tgt := 9) hx hb jd_pchk_1 (by decide) (fun h => absurd h ha) (fun _ => ?_)
  refine lv_iload_n hx hb jd_pchk_4 rfl (lv_at hl 0 rfl) ?_
  refine lv_iload_n hx hb jd_pchk_5 rfl (lv_at hl 1 rfl) ?_
  refine lv_icmp_lt (tgt := 16) hx hb jd_pchk_6 (by decide) (fun _ => ?_) (fun h => absurd hn h)
  refine lv_iload_n hx hb jd_pchk_16 rfl (lv_at hl 0 rfl) ?_
  exact W.iret hx hb hr (fun t ht _ => ⟨⟨_, (), rfl, rfl, trivial⟩, hS.F ht⟩) hS.2.2 jd_pchk_17

theorem j_chk (l : Launch) (G : GT) (sz : Nat) {a n : Int32} (ha : ¬ a < 0) (hn : a < n) : Met l jyChk (wsj jyChk jcChk 2 none) (jrm 1 22) (va_Pc [.int a, .int n] (PreJ G sz)) (va_Qv (fun (_ : Unit) => True) (fun _ _ => True) (va_A [] sz)) 0 0 (va_A [] sz) := by
  refine Met.ofW (cc := jcChk) (maxL := 2) (ret := none) (by decide) rfl ?_
  intro p e s m args below meth c s₁ B hml hv
  obtain ⟨rfl, hsz, hTX⟩ := hv
  have hx := B.exec
  have hb := B.bytes
  have hr := B.returns
  have hts0 := atoms_spec (ws := wsj jyChk jcChk 2 none) B.pre
  have hts : ∀ w ∈ gw, w.before _ s = true := fun w hw => hts0 w (List.mem_cons_of_mem _ hw)
  have hown : s.vm.findClass "java/lang/String" = some m.cls := findClass_of_methodNamed B.named
  have hlocks := B.notSynchronized
  subst hsz
  have hl := lv_entry ([.int a, .int n]) (n := 2) (Nat.le_of_ble_eq_true rfl)
  rw [lg_entry_eq]
  generalize (lg_sl ([.int a, .int n]) ++ List.replicate (2 - (lg_sl ([.int a, .int n])).length) Slot.unset).toArray = ls at hl ⊢
  have hl : lv_has ls 2 [(0, .int a), (1, .int n)] := hl
  have hS : va_S (va_A [] s.heap.size) s.heap s.heap [] := va_S.rf
  have hTX0 := hTX
  obtain ⟨⟨adV, hV⟩, hZ, hZq⟩ := hTX
  refine lv_iload_n hx hb jd_chk_0 rfl (lv_at hl 0 rfl) ?_
  refine lv_iload_n hx hb jd_chk_1 rfl (lv_at hl 1 rfl) ?_
  rcases hZq with hZ1 | ⟨t0, hZ1⟩
  · refine va_gets hx hb hZ1 hS hown (hts _ jg_23) (fun _ h => h) jd_chk_2 ?_
    refine va_calli (va_runS (As := [.int a, .int n, .null]) (rest := []) ⟨hx, hb, hml, hown, hts⟩ (j_pchkN l G s.heap.size ha hn) ⟨⟨rfl, rfl, Nat.le_of_ble_eq_true rfl, Nat.le_of_ble_eq_true rfl, wsj_warm hts jg_26, List.mem_cons_self, hts _ jg_26, hts _ ji_2, by decide, parse_len (n := 3) (by decide +kernel), hts _ jg_24⟩, hts _ jg_25⟩ ⟨blindJ _, preJ (fun _ h => h) rfl hTX0⟩ rfl rfl hl.1 rfl (lv_room (Nat.le_of_ble_eq_true rfl)) jd_chk_5 ⟨Nat.zero_le _, Nat.zero_le _⟩) hS (fun q _ h => h) (fun q h => h) (fun r u t H1 locs1 ht hvm hw hB hz1 hk1 hS => ?_)
    refine lv_pop hx hb jd_chk_8 rfl ?_
    exact W.vret hx hb hr (fun t ht _ => ⟨⟨(), rfl, trivial, trivial⟩, hS.F ht⟩) hS.2.2 jd_chk_9
  · refine va_gets hx hb hZ1 hS hown (hts _ jg_23) (fun _ h => h) jd_chk_2 ?_
    refine va_calli (va_runS (As := [.int a, .int n, .ref t0]) (rest := []) ⟨hx, hb, hml, hown, hts⟩ (j_pchkR l G s.heap.size (t0 := t0) ha hn) ⟨⟨rfl, rfl, Nat.le_of_ble_eq_true rfl, Nat.le_of_ble_eq_true rfl, wsj_warm hts jg_26, List.mem_cons_self, hts _ jg_26, hts _ ji_2, by decide, parse_len (n := 3) (by decide +kernel), hts _ jg_24⟩, hts _ jg_25⟩ ⟨blindJ _, preJ (fun _ h => h) rfl hTX0⟩ rfl rfl hl.1 rfl (lv_room (Nat.le_of_ble_eq_true rfl)) jd_chk_5 ⟨Nat.zero_le _, Nat.zero_le _⟩) hS (fun q _ h => h) (fun q h => h) (fun r u t H1 locs1 ht hvm hw hB hz1 hk1 hS => ?_)
    refine lv_pop hx hb jd_chk_8 rfl ?_
    exact W.vret hx hb hr (fun t ht _ => ⟨⟨(), rfl, trivial, trivial⟩, hS.F ht⟩) hS.2.2 jd_chk_9

theorem j_lchr (l : Launch) (G : GT) (sz : Nat) {i j a : Nat} (hi : i < 16) (hj : j < lenS.getD i 0) : Met l jyLchr (wsj jyLchr jcLchr 2 (some .char)) (jrm 2 43) (va_Pc [.ref a, .int (Int32.ofNat j)] (PreL G i a sz)) (jQi (Int32.ofInt (sChr i j)) sz) 0 0 (va_A [] sz) := by
  refine Met.ofW (cc := jcLchr) (maxL := 2) (ret := (some .char)) (by decide) rfl ?_
  intro p e s m args below meth c s₁ B hml hv
  obtain ⟨rfl, ⟨hsz, hTX⟩, hT⟩ := hv
  have hx := B.exec
  have hb := B.bytes
  have hr := B.returns
  have hts0 := atoms_spec (ws := wsj jyLchr jcLchr 2 (some .char)) B.pre
  have hts : ∀ w ∈ gw, w.before _ s = true := fun w hw => hts0 w (List.mem_cons_of_mem _ hw)
  have hown : s.vm.findClass "java/lang/StringLatin1" = some m.cls := findClass_of_methodNamed B.named
  have hlocks := B.notSynchronized
  subst hsz
  have hl := lv_entry ([.ref a, .int (Int32.ofNat j)]) (n := 2) (Nat.le_of_ble_eq_true rfl)
  rw [lg_entry_eq]
  generalize (lg_sl ([.ref a, .int (Int32.ofNat j)]) ++ List.replicate (2 - (lg_sl ([.ref a, .int (Int32.ofNat j)])).length) Slot.unset).toArray = ls at hl ⊢
  have hl : lv_has ls 2 [(0, .ref a), (1, .int (Int32.ofNat j))] := hl
  have hS : va_S (va_A [] s.heap.size) s.heap s.heap [] := va_S.rf
  have hTX0 := hTX
  obtain ⟨⟨adV, hV⟩, hZ, hZq⟩ := hTX
  obtain ⟨-, e2, e3⟩ := of_decide_eq_true (allR_at 16 0 i len_all (by omega) (by omega))
  obtain ⟨f1, f2⟩ := of_decide_eq_true (allR_at (lenS.getD i 0) 0 j (allR_at 16 0 i chr_all (by omega) (by omega)) (by omega) (by omega))
  have hjc : (Int32.ofNat j).toNatClampNeg = j := Int32.toNatClampNeg_ofNat_of_lt (by omega)
  have hj0 : ¬ Int32.ofNat j < 0 := nI_pos (by omega)
  have hjn : Int32.ofNat j < Int32.ofNat (lenS.getD i 0) := nI_lt hj (by omega)
  refine lv_iload_n hx hb jd_lchr_0 rfl (lv_at hl 1 rfl) ?_
  refine lv_aload_n hx hb jd_lchr_1 rfl (lv_at hl 0 rfl) ?_
  refine va_tlen hx hb hT hS rfl jd_lchr_2 ?_
  refine va_callv (va_runS (As := [.int (Int32.ofNat j), .int (Int32.ofNat (lenS.getD i 0))]) (rest := []) ⟨hx, hb, hml, hown, hts⟩ (j_chk l G s.heap.size hj0 hjn) ⟨⟨rfl, rfl, Nat.le_of_ble_eq_true rfl, Nat.le_of_ble_eq_true rfl, wsj_warm hts jg_22, List.mem_cons_self, hts _ jg_22, hts _ ji_0, by decide, parse_len (n := 2) (by decide +kernel), hts _ jg_20⟩, hts _ jg_21⟩ ⟨blindJ _, preJ (fun _ h => h) rfl hTX0⟩ rfl rfl hl.1 rfl (lv_room (Nat.le_of_ble_eq_true rfl)) jd_lchr_3 ⟨Nat.zero_le _, Nat.zero_le _⟩) hS (fun q _ h => h) (fun q h => h) (fun u t H1 locs1 ht hvm hw hB hz1 hk1 hS => ?_)
  refine lv_aload_n hx hb jd_lchr_6 rfl (lv_at hl 0 rfl) ?_
  refine lv_iload_n hx hb jd_lchr_7 rfl (lv_at hl 1 rfl) ?_
  refine va_tb hx hb hT hS (v := .int ((bytS.getD i []).getD j 0)) (vp_in_nI hj (by omega)) (by show Value.int ((bytS.getD i []).getD (Int32.ofNat j).toNatClampNeg 0) = _; rw [hjc]) jd_lchr_8 ?_
  refine lv_sipush (v := 255) hx hb jd_lchr_9 (by decide) ?_
  refine lv_iand hx hb jd_lchr_12 ?_
  refine lv_i2c hx hb jd_lchr_13 f1 ?_
  exact W.zret hx hb hr (by show Value.int ((Int32.ofInt (sChr i j)).toUInt32 % 65536).toInt32 = _; rw [f2]) (fun t ht _ => ⟨⟨_, (), rfl, rfl, trivial⟩, hS.F ht⟩) hS.2.2 jd_lchr_14

theorem j_chr (l : Launch) (G : GT) (sz : Nat) {i j : Nat} (hi : i < 16) (hj : j < lenS.getD i 0) : Met l jyChr (wsj jyChr jcChr 2 (some .char)) (jrm 3 64) (va_Pc [.ref (G.2.2 i), .int (Int32.ofNat j)] (PreJ G sz)) (jQi (Int32.ofInt (sChr i j)) sz) 0 0 (va_A [] sz) := by
  refine Met.ofW (cc := jcChr) (maxL := 2) (ret := (some .char)) (by decide) rfl ?_
  intro p e s m args below meth c s₁ B hml hv
  obtain ⟨rfl, hsz, hTX⟩ := hv
  have hx := B.exec
  have hb := B.bytes
  have hr := B.returns
  have hts0 := atoms_spec (ws := wsj jyChr jcChr 2 (some .char)) B.pre
  have hts : ∀ w ∈ gw, w.before _ s = true := fun w hw => hts0 w (List.mem_cons_of_mem _ hw)
  have hown : s.vm.findClass "java/lang/String" = some m.cls := findClass_of_methodNamed B.named
  have hlocks := B.notSynchronized
  subst hsz
  have hl := lv_entry ([.ref (G.2.2 i), .int (Int32.ofNat j)]) (n := 2) (Nat.le_of_ble_eq_true rfl)
  rw [lg_entry_eq]
  generalize (lg_sl ([.ref (G.2.2 i), .int (Int32.ofNat j)]) ++ List.replicate (2 - (lg_sl ([.ref (G.2.2 i), .int (Int32.ofNat j)])).length) Slot.unset).toArray = ls at hl ⊢
  have hl : lv_has ls 2 [(0, .ref (G.2.2 i)), (1, .int (Int32.ofNat j))] := hl
  have hS : va_S (va_A [] s.heap.size) s.heap s.heap [] := va_S.rf
  have hTX0 := hTX
  obtain ⟨⟨adV, hV⟩, hZ, hZq⟩ := hTX
  obtain ⟨hO, hF1, hF2, hT⟩ := hV i hi
  obtain ⟨f1, f2⟩ := of_decide_eq_true (allR_at (lenS.getD i 0) 0 j (allR_at 16 0 i chr_all (by omega) (by omega)) (by omega) (by omega))
  refine lv_aload_n hx hb jd_chr_0 rfl (lv_at hl 0 rfl) ?_
  refine va_calli (va_runV (C := "java/lang/String") (As := []) (rest := []) ⟨hx, hb, hml, hown, hts⟩ (j_latin l G s.heap.size hi) ⟨⟨rfl, rfl, Nat.le_of_ble_eq_true rfl, Nat.le_of_ble_eq_true rfl, wsj_warm hts jg_13, List.mem_cons_self, hts _ jg_13, hts _ ji_0, by decide, parse_len (n := 0) (by decide +kernel), hts _ jg_10⟩, hts _ jg_11, hts _ jg_12⟩ ⟨blindJ _, recvT hO, preJ (fun _ h => h) rfl hTX0⟩ rfl rfl hl.1 rfl (lv_room (Nat.le_of_ble_eq_true rfl)) jd_chr_1 ⟨Nat.zero_le _, Nat.zero_le _⟩) hS (fun q _ h => h) (fun q h => h) (fun r u t H1 locs1 ht hvm hw hB hz1 hk1 hS => ?_)
  rw [hw]
  refine lv_if_eq (tgt := 16) hx hb jd_chr_4 (by decide) (fun h => absurd h (by decide)) (fun _ => ?_)
  refine lv_aload_n hx hb jd_chr_7 rfl (lv_at hl 0 rfl) ?_
  refine vk_getf hx hb hF2 hS hown (hts _ jg_0) (fun _ h => h) jd_chr_8 ?_
  refine lv_iload_n hx hb jd_chr_11 rfl (lv_at hl 1 rfl) ?_
  have hT1 := hT.kept hS.2.1
  refine va_calli (va_runS (As := [.ref (adV i), .int (Int32.ofNat j)]) (rest := []) ⟨hx, hb, hml, hown, hts⟩ (j_lchr l G H1.size (a := adV i) hi hj) ⟨⟨rfl, rfl, Nat.le_of_ble_eq_true rfl, Nat.le_of_ble_eq_true rfl, wsj_warm hts jg_19, List.mem_cons_self, hts _ jg_19, hts _ ji_1, by decide, parse_len (n := 2) (by decide +kernel), hts _ jg_17⟩, hts _ jg_18⟩ ⟨blindL _, fun U hU hW => ⟨rfl, ⟨by rw [hU], by rw [hU]; exact TXc.moved hW.alike ((hTX0.kept hS.2.1).narrow (jA hS.1))⟩, by rw [hU]; exact va_T.moved hW.alike (hT1.narrow (jA hS.1))⟩⟩ rfl rfl hl.1 rfl (lv_room (Nat.le_of_ble_eq_true rfl)) jd_chr_12 ⟨Nat.zero_le _, Nat.zero_le _⟩) hS (fun q _ h => jA hS.1 q h) (fun q h => jA hS.1 q h) (fun r u t H2 locs2 ht hvm hw hB hz1 hk1 hS => ?_)
  rw [hw]
  exact W.zret hx hb hr (by show Value.int ((Int32.ofInt (sChr i j)).toUInt32 % 65536).toInt32 = _; rw [f2]) (fun t ht _ => ⟨⟨_, (), rfl, rfl, trivial⟩, hS.F ht⟩) hS.2.2 jd_chr_15
end JDK
end
section
/-! TEXTS: length, charAt; and THE WALK -/
section WALK
variable {N m : Nat} {G : GT} {b : Nat} {xs : Nat → Int32} {out : Out}
variable {p : Program} {l : Launch} {e : Env} {R : Room} {s : State} {mid : MethodId} {args : Array Value} {below : List Frame} {meth : Method} {c : Code} {A : Nat → Prop} {H0 : Heap} {Q : State → Prop}
variable {F pc : Nat} {L st : List MV} {S : MS} {ad : AdT} {H : Heap} {locs : List Loc} {cells slots : Nat} {ls : Array Slot}
theorem ofInt_nat (n : Nat) : Int32.ofInt (n : Int) = Int32.ofNat n := by
  first
    | exact Int32.ofInt_eq_ofNat
    | rfl
    | (rw [← Int32.toInt_inj]; simp)
theorem ord_lt {a : Nat} {q : Nat × Nat} (h : nth ords a = some q) : q.1 < 999 := (ords_kd h).1
/-- a text that is a value is one of the sixteen -/
theorem okV_tx {n i : Nat} (h : okV n (vR 1000 i)) : i < 16 := by
  rcases h with ⟨a, ha, ho⟩ | h | ⟨-, h⟩
  · have := ord_lt ho
    dsimp only at this
    omega
  · cases h
  · exact h
/-- behind a call that makes and writes nothing of ours -/
theorem wd_still {H1 : Heap} {locs1 : List Loc} (hW : Wd N G b xs A H0 S ad H locs) (hk : ∀ q : Nat, q < H.size → ¬ va_A [] H.size q → H1[q]? = H[q]?) (hS : va_S A H0 H1 locs1) : Wd N G b xs A H0 S ad H1 locs1 := by
  obtain ⟨w1, w2, w3, w4⟩ := hW
  refine ⟨fun i q hi => (w1 i q hi).kept (hk q.1 (w1 i q hi).lt ?_), w2, hS, w4⟩
  rintro (⟨k, e, h⟩ | h)
  · simp at h
  · have := (w1 i q hi).lt
    omega
theorem s_slen (hC : Cx N m G b xs p R s mid args meth c A H0) (ih : IH N F m G b xs out p l e R s mid args below meth c A H0 Q) (hH : Here N m G b xs out p l e R s mid args below meth c A H0 Q L st S ad H locs cells slots ls)
    {raw : Instr} {len : Nat} (hd : decode (mCode m) (bpc m pc) = .ok (raw, len)) (hn : bpc m (pc + 1) = bpc m pc + len) (hlen : lenOf raw = 0 ∨ len = lenOf raw) (hz : rz m (bpc m pc) raw .ddiv = true)
    (he : x_slen pc L st S (exec N F m) none = some out) : W p l e R s mid args below meth c H locs cells slots Q (F0 mid (bpc m pc) ls (st.map (toV ad))) := by
  obtain ⟨hm264, hx, hb, hml, hown, hts, hini, hfr, hlo, hGS, hA, hX, hbl, hbA, hTX, hN⟩ := hC
  unfold x_slen at he
  rcases st with _ | ⟨(x | (x | (⟨k, i⟩ | x))), st⟩ <;> first | (cases he; done) | skip
  have hv := okh hH.2.2.1
  have hr := okt hH.2.2.1
  dsimp only at he
  rcases g1 : Nat.beq k 1000 with _ | _ <;> rw [g1] at he <;> first | (cases he; done) | skip
  rw [cond_true] at he
  rcases g3 : Nat.ble (wordsOf st) 8 with _ | _ <;> rw [g3] at he <;> first | (cases he; done) | skip
  rw [cond_true] at he
  have hi : i < 16 := by
    have e1 := Nat.eq_of_beq_eq_true g1
    subst e1
    exact okV_tx hv
  obtain ⟨-, l1, l2⟩ := of_decide_eq_true (allR_at 16 0 i len_all (by omega) (by omega))
  have hin : in32 (sLen i) := by unfold in32; omega
  have g1 := Nat.eq_of_beq_eq_true g1
  subst g1
  have g3 := Nat.le_of_ble_eq_true g3
  unfold rz at hz
  dsimp only at hz
  split at hz
  · rename_i idx
    obtain ⟨h1, h2⟩ := band_t hz
    obtain ⟨h1, h3⟩ := roomI_t h1
    rcases hlen with h | h
    · cases h
    rw [h] at hd hn
    have w1 := hts _ (gw_of h2 rfl)
    rw [wd_24] at w1
    have hF : ∀ q, va_A [] H.size q → A q := by
      rintro q (⟨k, e, h⟩ | h)
      · simp at h
      · exact hA q (Nat.le_trans hH.1.2.2.1.1 h)
    have hTX1 := hTX.kept hH.1.2.2.1.2.1
    have hTX2 := hTX1.narrow hF
    obtain ⟨⟨adV, hV⟩, hZ, hZq⟩ := id hTX1
    obtain ⟨hO, hF1, hF2, hT⟩ := hV i hi
    have hcells := hH.2.2.2.2.2.2.1
    have hslots := hH.2.2.2.2.2.2.2.1
    have hmono := exec_n _ _ _ _ _ _ _ he
    have hsl := slN_mono hmono
    have hw5 := hH.1.2.2.2.2.1 i hi
    have est : (vR 1000 i :: st).map (toV ad) = .ref (G.2.2 i) :: st.map (toV ad) := by
      rw [List.map_cons, ← hw5]
      rfl
    rw [est]
    have hmon : 2 * 0 + ((st.map (toV ad)).map fun v => v.category).sum ≤ 8 := by
      rw [words_eq]
      omega
    refine va_calli (va_runV (C := "java/lang/String") (As := []) (rest := st.map (toV ad)) ⟨hx, hb, hml, hown, hts⟩ (j_len l G H.size hi) ⟨⟨rfl, rfl, by show 1 + 1 ≤ R.frames; omega, by show 8 + (1 + 11) + 20 ≤ R.locals; omega, wsj_warm hts jg_9, List.mem_cons_self, hts _ jg_9, hts _ ji_0, by decide, parse_len (n := 0) (by decide +kernel), w1⟩, hts _ jg_7, hts _ jg_8⟩ ⟨blindJ _, recvT hO, fun U hU hW => ⟨rfl, by rw [hU], by rw [hU]; exact TXc.moved hW.alike hTX2⟩⟩ rfl rfl (hH.2.2.2.2.1.1.trans hH.2.2.2.2.2.1) rfl hmon hd ⟨by omega, by omega⟩) hH.1.2.2.1 (fun q _ h => hF q h) hF (fun r u t H1 locs1 ht hvm hw hB hz1 hk1 hS => ?_)
    rw [hw]
    have k0 := ih (pc + 1) L (vI (sLen i) :: st) S ad H1 locs1 cells slots ls he ⟨wd_still hH.1 hk1 hS, hH.2.1, ok1 (show okV S.1 (vI (sLen i)) from hin) hr, hH.2.2.2.1, hH.2.2.2.2.1, hH.2.2.2.2.2.1, hH.2.2.2.2.2.2.1, hH.2.2.2.2.2.2.2.1, hH.2.2.2.2.2.2.2.2⟩
    rw [hn] at k0
    exact k0
  · cases hz
theorem chin_all : allR (fun i => allR (fun j => decide (0 ≤ sChr i j ∧ sChr i j < 128)) 0 (lenS.getD i 0)) 0 16 = true := by decide +kernel
theorem chr_in {i j : Nat} (hi : i < 16) (hj : j < lenS.getD i 0) : in32 (sChr i j) := by
  have h := of_decide_eq_true (allR_at (lenS.getD i 0) 0 j (allR_at 16 0 i chin_all (by omega) (by omega)) (by omega) (by omega))
  unfold in32
  omega
theorem s_schr (hC : Cx N m G b xs p R s mid args meth c A H0) (ih : IH N F m G b xs out p l e R s mid args below meth c A H0 Q) (hH : Here N m G b xs out p l e R s mid args below meth c A H0 Q L st S ad H locs cells slots ls)
    {raw : Instr} {len : Nat} (hd : decode (mCode m) (bpc m pc) = .ok (raw, len)) (hn : bpc m (pc + 1) = bpc m pc + len) (hlen : lenOf raw = 0 ∨ len = lenOf raw) (hz : rz m (bpc m pc) raw .drem = true)
    (he : x_schr pc L st S (exec N F m) none = some out) : W p l e R s mid args below meth c H locs cells slots Q (F0 mid (bpc m pc) ls (st.map (toV ad))) := by
  obtain ⟨hm264, hx, hb, hml, hown, hts, hini, hfr, hlo, hGS, hA, hX, hbl, hbA, hTX, hN⟩ := hC
  unfold x_schr at he
  rcases st with _ | ⟨(j | (j | (j | j))), _ | ⟨(x | (x | (⟨k, i⟩ | x))), st⟩⟩ <;> first | (cases he; done) | skip
  have hvj := okh hH.2.2.1
  have hv := okh (okt hH.2.2.1)
  have hr := okt (okt hH.2.2.1)
  dsimp only at he
  rcases g1 : Nat.beq k 1000 with _ | _ <;> rw [g1] at he <;> first | (cases he; done) | skip
  rw [cond_true] at he
  by_cases b1 : j < 0
  · rw [if_pos b1] at he; cases he
  rw [if_neg b1] at he
  by_cases b2 : j < sLen i
  case neg => rw [if_neg b2] at he; cases he
  rw [if_pos b2] at he
  rcases g3 : Nat.ble (wordsOf st) 8 with _ | _ <;> rw [g3] at he <;> first | (cases he; done) | skip
  rw [cond_true] at he
  have hi : i < 16 := by
    have e1 := Nat.eq_of_beq_eq_true g1
    subst e1
    exact okV_tx hv
  obtain ⟨-, l1, l2⟩ := of_decide_eq_true (allR_at 16 0 i len_all (by omega) (by omega))
  have hj : j.toNat < lenS.getD i 0 := by omega
  have hin : in32 (sChr i j.toNat) := chr_in hi hj
  have g1 := Nat.eq_of_beq_eq_true g1
  subst g1
  have g3 := Nat.le_of_ble_eq_true g3
  unfold rz at hz
  dsimp only at hz
  split at hz
  · rename_i idx
    obtain ⟨h1, h2⟩ := band_t hz
    obtain ⟨h1, h3⟩ := roomI_t h1
    rcases hlen with h | h
    · cases h
    rw [h] at hd hn
    have w1 := hts _ (gw_of h2 rfl)
    rw [wd_25] at w1
    have hF : ∀ q, va_A [] H.size q → A q := by
      rintro q (⟨k, e, h⟩ | h)
      · simp at h
      · exact hA q (Nat.le_trans hH.1.2.2.1.1 h)
    have hTX1 := hTX.kept hH.1.2.2.1.2.1
    have hTX2 := hTX1.narrow hF
    obtain ⟨⟨adV, hV⟩, hZ, hZq⟩ := id hTX1
    obtain ⟨hO, hF1, hF2, hT⟩ := hV i hi
    have hcells := hH.2.2.2.2.2.2.1
    have hslots := hH.2.2.2.2.2.2.2.1
    have hmono := exec_n _ _ _ _ _ _ _ he
    have hsl := slN_mono hmono
    have hw5 := hH.1.2.2.2.2.1 i hi
    have est : (vI j :: vR 1000 i :: st).map (toV ad) = .int (Int32.ofNat j.toNat) :: .ref (G.2.2 i) :: st.map (toV ad) := by
      rw [List.map_cons, List.map_cons, ← hw5, ← ofInt_nat, Int.toNat_of_nonneg (by omega)]
      rfl
    rw [est]
    have hmon : 2 * 0 + ((st.map (toV ad)).map fun v => v.category).sum ≤ 8 := by
      rw [words_eq]
      omega
    refine va_calli (va_runV (C := "java/lang/String") (As := [.int (Int32.ofNat j.toNat)]) (rest := st.map (toV ad)) ⟨hx, hb, hml, hown, hts⟩ (j_chr l G H.size hi hj) ⟨⟨rfl, rfl, by show 3 + 1 ≤ R.frames; omega, by show 8 + (2 + 11) + 64 ≤ R.locals; omega, wsj_warm hts jg_16, List.mem_cons_self, hts _ jg_16, hts _ ji_0, by decide, parse_len (n := 1) (by decide +kernel), w1⟩, hts _ jg_14, hts _ jg_15⟩ ⟨blindJ _, recvT hO, fun U hU hW => ⟨rfl, by rw [hU], by rw [hU]; exact TXc.moved hW.alike hTX2⟩⟩ rfl rfl (hH.2.2.2.2.1.1.trans hH.2.2.2.2.2.1) rfl hmon hd ⟨by omega, by omega⟩) hH.1.2.2.1 (fun q _ h => hF q h) hF (fun r u t H1 locs1 ht hvm hw hB hz1 hk1 hS => ?_)
    rw [hw]
    have k0 := ih (pc + 1) L (vI (sChr i j.toNat) :: st) S ad H1 locs1 cells slots ls he ⟨wd_still hH.1 hk1 hS, hH.2.1, ok1 (show okV S.1 (vI (sChr i j.toNat)) from hin) hr, hH.2.2.2.1, hH.2.2.2.2.1, hH.2.2.2.2.2.1, hH.2.2.2.2.2.2.1, hH.2.2.2.2.2.2.2.1, hH.2.2.2.2.2.2.2.2⟩
    rw [hn] at k0
    exact k0
  · cases hz
end WALK
def retK (r : Nat) : Instr → Bool
  | .ireturn => cond (Nat.beq r 1) true (Nat.beq r 2)
  | .lreturn => Nat.beq r 3
  | .areturn => Nat.beq r 4
  | .return_ => Nat.beq r 0
  | _ => true
theorem rets_all : allR (fun m => allL (retK (mRet m)) (cod m)) 0 264 = true := by decide +kernel
theorem rets_k {m pc : Nat} {ins : Instr} (hm : m < 264) (h : nth (cod m) pc = some ins) : retK (mRet m) ins = true := allL_in (allR_at 264 0 m rets_all (by omega) (by omega)) ins (nth_mem _ _ _ h)
section WALK
variable {N m : Nat} {G : GT} {b : Nat} {xs : Nat → Int32} {out : Out}
variable {p : Program} {l : Launch} {e : Env} {R : Room} {s : State} {mid : MethodId} {args : Array Value} {below : List Frame} {meth : Method} {c : Code} {A : Nat → Prop} {H0 : Heap} {Q : State → Prop}
variable {F pc : Nat} {L st : List MV} {S : MS} {ad : AdT} {H : Heap} {locs : List Loc} {cells slots : Nat} {ls : Array Slot}
theorem r_i (hH : Here N m G b xs out p l e R s mid args below meth c A H0 Q L st S ad H locs cells slots ls) {raw : Instr} {len : Nat} (hd : decode (mCode m) (bpc m pc) = .ok (raw, len)) (hlen : lenOf raw = 0 ∨ len = lenOf raw) (hz : rz m (bpc m pc) raw .ireturn = true) (hk : retK (mRet m) .ireturn = true)
    (he : xret m st S = some out) : W p l e R s mid args below meth c H locs cells slots Q (F0 mid (bpc m pc) ls (st.map (toV ad))) := by
  have hr : mRet m = 1 ∨ mRet m = 2 := by
    unfold retK at hk
    rcases z : Nat.beq (mRet m) 1 with _ | _
    · rw [z] at hk
      exact Or.inr (Nat.eq_of_beq_eq_true hk)
    · exact Or.inl (Nat.eq_of_beq_eq_true z)
  unfold rz at hz
  dsimp only at hz
  split at hz
  · rcases hlen with h | h
    · cases h
    rw [h] at hd
    refine s_ret hH he (fun h _ => by omega) (fun _ _ => hd) (fun x hx => ?_) (fun x hx => ?_)
    · subst hx
      unfold xret at he
      rcases hr with h | h <;> rw [h] at he <;> cases he
    · subst hx
      unfold xret at he
      rcases hr with h | h <;> rw [h] at he <;> cases he
  · cases hz
theorem r_l (hH : Here N m G b xs out p l e R s mid args below meth c A H0 Q L st S ad H locs cells slots ls) {raw : Instr} {len : Nat} (hd : decode (mCode m) (bpc m pc) = .ok (raw, len)) (hlen : lenOf raw = 0 ∨ len = lenOf raw) (hz : rz m (bpc m pc) raw .lreturn = true) (hk : retK (mRet m) .lreturn = true)
    (he : xret m st S = some out) : W p l e R s mid args below meth c H locs cells slots Q (F0 mid (bpc m pc) ls (st.map (toV ad))) := by
  have hr : mRet m = 3 := Nat.eq_of_beq_eq_true hk
  unfold rz at hz
  dsimp only at hz
  split at hz
  · rcases hlen with h | h
    · cases h
    rw [h] at hd
    refine s_ret hH he (fun h _ => by omega) (fun x hx => ?_) (fun _ _ => hd) (fun x hx => ?_)
    · subst hx
      unfold xret at he
      rw [hr] at he
      cases he
    · subst hx
      unfold xret at he
      rw [hr] at he
      cases he
  · cases hz
theorem r_a (hH : Here N m G b xs out p l e R s mid args below meth c A H0 Q L st S ad H locs cells slots ls) {raw : Instr} {len : Nat} (hd : decode (mCode m) (bpc m pc) = .ok (raw, len)) (hlen : lenOf raw = 0 ∨ len = lenOf raw) (hz : rz m (bpc m pc) raw .areturn = true) (hk : retK (mRet m) .areturn = true)
    (he : xret m st S = some out) : W p l e R s mid args below meth c H locs cells slots Q (F0 mid (bpc m pc) ls (st.map (toV ad))) := by
  have hr : mRet m = 4 := Nat.eq_of_beq_eq_true hk
  unfold rz at hz
  dsimp only at hz
  split at hz
  · rcases hlen with h | h
    · cases h
    rw [h] at hd
    refine s_ret hH he (fun h _ => by omega) (fun x hx => ?_) (fun x hx => ?_) (fun _ _ => hd)
    · subst hx
      unfold xret at he
      rw [hr] at he
      cases he
    · subst hx
      unfold xret at he
      rw [hr] at he
      cases he
  · cases hz
theorem r_v (hH : Here N m G b xs out p l e R s mid args below meth c A H0 Q L st S ad H locs cells slots ls) {raw : Instr} {len : Nat} (hd : decode (mCode m) (bpc m pc) = .ok (raw, len)) (hlen : lenOf raw = 0 ∨ len = lenOf raw) (hz : rz m (bpc m pc) raw .return_ = true) (hk : retK (mRet m) .return_ = true)
    (he : xret m st S = some out) : W p l e R s mid args below meth c H locs cells slots Q (F0 mid (bpc m pc) ls (st.map (toV ad))) := by
  have hr : mRet m = 0 := Nat.eq_of_beq_eq_true hk
  unfold rz at hz
  dsimp only at hz
  split at hz
  · rcases hlen with h | h
    · cases h
    rw [h] at hd
    refine s_ret hH he (fun _ _ => hd) (fun x hx => ?_) (fun x hx => ?_) (fun x hx => ?_)
    · subst hx
      unfold xret at he
      rw [hr] at he
      cases he
    · subst hx
      unfold xret at he
      rw [hr] at he
      cases he
    · subst hx
      unfold xret at he
      rw [hr] at he
      cases he
  · cases hz
end WALK
set_option maxHeartbeats 4000000 in
/-- THE WALK: what the small machine comes to, the JVM comes to -/
theorem walk (N : Nat) (l : Launch) : ∀ (F m : Nat) (G : GT) (b : Nat) (xs : Nat → Int32) (out : Out) (p : Program) (e : Env) (R : Room) (s : State) (mid : MethodId) (args : Array Value) (below : List Frame) (meth : Method) (c : Code) (A : Nat → Prop) (H0 : Heap) (Q : State → Prop), Cx N m G b xs p R s mid args meth c A H0 → IH N F m G b xs out p l e R s mid args below meth c A H0 Q := by
  intro F
  induction F with
  | zero =>
    intro m G b xs out p e R s mid args below meth c A H0 Q _ pc L st S ad H locs cells slots ls he
    exact absurd he (by simp [exec])
  | succ F ihF =>
    intro m G b xs out p e R s mid args below meth c A H0 Q hC pc L st S ad H locs cells slots ls he hH
    rw [exec] at he
    rcases e9 : nth (cod m) pc with _ | ins <;> rw [e9] at he
    · cases he
    dsimp only at he
    have ok := okIns m pc ins hC.1 e9
    have hk := rets_k hC.1 e9
    obtain ⟨raw, len, hd, hn, hlen, hz⟩ := okI_x ok
    have ih := ihF m G b xs out p e R s mid args below meth c A H0 Q hC
    have hM : MetK N F l := met_of (fun m G b xs out p e R s mid args below meth c A H0 Q h => ihF m G b xs out p e R s mid args below meth c A H0 Q h)
    cases ins with
    | iload i => exact s_iload hC ih hH hd hn hlen hz he
    | lload i => exact s_lload hC ih hH hd hn hlen hz he
    | aload i => exact s_aload hC ih hH hd hn hlen hz he
    | istore i => exact s_istore hC ih hH hd hn hlen hz he
    | astore i => exact s_astore hC ih hH hd hn hlen hz he
    | lstore i => exact s_lstore hC ih hH hd hn hlen hz he
    | fstore i => exact s_fstore hC ih hH hd hn hlen hz he
    | dstore i => exact s_dstore hC ih hH hd hn hlen hz he
    | iconst v => exact s_iconst hC ih hH hd hn hlen hz he
    | jsr_w v => exact s_jconst hC ih hH hd hn hlen hz he
    | ldc i => exact s_ldc hC ih hH hd hn hlen hz he
    | iinc i k => exact s_iinc hC ih hH hd hn hlen hz he
    | iadd => exact s_iadd hC ih hH hd hn hlen hz he
    | isub => exact s_isub hC ih hH hd hn hlen hz he
    | imul => exact s_imul hC ih hH hd hn hlen hz he
    | iand => exact s_iand hC ih hH hd hn hlen hz he
    | ior => exact s_ior hC ih hH hd hn hlen hz he
    | ixor => exact s_ixor hC ih hH hd hn hlen hz he
    | ishl => exact s_ishl hC ih hH hd hn hlen hz he
    | ishr => exact s_ishr hC ih hH hd hn hlen hz he
    | idiv => exact s_idiv hC ih hH hd hn hlen hz he
    | irem => exact s_irem hC ih hH hd hn hlen hz he
    | dadd => exact s_min hC ih hH hd hn hlen hz he
    | dsub => exact s_max hC ih hH hd hn hlen hz he
    | ladd => exact s_ladd hC ih hH hd hn hlen hz he
    | lmul => exact s_lmul hC ih hH hd hn hlen hz he
    | lor => exact s_lor hC ih hH hd hn hlen hz he
    | ldiv => exact s_ldiv hC ih hH hd hn hlen hz he
    | lrem => exact s_lrem hC ih hH hd hn hlen hz he
    | lshl => exact s_lshl hC ih hH hd hn hlen hz he
    | lshr => exact s_lshr hC ih hH hd hn hlen hz he
    | lushr => exact s_lushr hC ih hH hd hn hlen hz he
    | lcmp => exact s_lcmp hC ih hH hd hn hlen hz he
    | i2l => exact s_i2l hC ih hH hd hn hlen hz he
    | l2i => exact s_l2i hC ih hH hd hn hlen hz he
    | i2b => exact s_i2b hC ih hH hd hn hlen hz he
    | dup => exact s_dup hC ih hH hd hn hlen hz he
    | dup2 => exact s_dup2 hC ih hH hd hn hlen hz he
    | pop => exact s_pop hC ih hH hd hn hlen hz he
    | goto t => exact s_goto hC ih hH hd hn hlen hz he
    | if_icmp cd t => exact s_icmp hC ih hH hd hn hlen hz he
    | ifCond cd t => exact s_ifc hC ih hH hd hn hlen hz he
    | ifnull t => exact s_ifnull hC ih hH hd hn hlen hz he
    | tableswitch d lo hi ts => exact s_switch hC ih hH hd hz he
    | getfield n => exact s_get hC ih hH hd hn hlen hz he
    | putfield n => exact s_put hC ih hH hd hn hlen hz he
    | arraylength => exact s_alen hC ih hH hd hn hlen hz he
    | iaload => exact s_iald hC ih hH hd hn hlen hz he
    | baload => exact s_bald hC ih hH hd hn hlen hz he
    | laload => exact s_lald hC ih hH hd hn hlen hz he
    | iastore => exact s_iast hC ih hH hd hn hlen hz he
    | bastore => exact s_bast hC ih hH hd hn hlen hz he
    | lastore => exact s_last hC ih hH hd hn hlen hz he
    | new ci => exact s_new hC ih hH hd hn hlen hz he
    | newarray t => exact s_newa hC ih hH hd hn hlen hz he
    | dmul => exact s_copy hC ih hH hd hn hlen hz he
    | ddiv => exact s_slen hC ih hH hd hn hlen hz he
    | drem => exact s_schr hC ih hH hd hn hlen hz he
    | dneg => exact s_obj hC ih hH hd hn hlen hz he
    | invokestatic k => exact s_ics hM hC ih hH hd hn hlen hz he
    | invokevirtual k => exact s_icv hM hC ih hH hd hn hlen hz he
    | invokespecial k => exact s_ici hM hC ih hH hd hn hlen hz he
    | ireturn => exact r_i hH hd hlen hz hk he
    | lreturn => exact r_l hH hd hlen hz hk he
    | areturn => exact r_a hH hd hlen hz hk he
    | return_ => exact r_v hH hd hlen hz hk he
    | _ => exact absurd (show (none : Option Out) = some out from he) (by simp)
end
section
/-! THE LAW'S START -/
def sOwn (i : Nat) : String := cN (nthD [4, 4, 4, 4, 4, 4, 4, 4, 8, 8, 8, 8, 8, 8, 8, 8] i)
def sIdx (i : Nat) : Nat := nthD [62, 101, 72, 110, 116, 77, 82, 87, 91, 93, 95, 97, 99, 101, 102, 104] i
def sRep (i : Nat) : Nat := nthD [0, 1, 2, 3, 4, 5, 6, 7, 0, 2, 5, 6, 7, 1, 3, 4] i
def tmS (i : Nat) : Term := .string (sOwn i) (sIdx i)
theorem tb_in {c : Cond} (h : c ∈ tables_1) : c ∈ lw_tbl := List.mem_append_right _ h
set_option maxRecDepth 100000 in
theorem sr_all : ∀ i, i < 16 → Cond.stringRef (sOwn i) (sIdx i) (sTxt i) ∈ tables_1 := by decide +kernel
theorem nl_0 : ∀ q ∈ ([(2, 119), (5, 70)] : List (Nat × Nat)), Cond.methodLinkNest (cN q.1) q.2 (mN 149) "TwinSlots" ∈ tables_1 := by decide +kernel
theorem ls_0 : Cond.laysStatic "java/lang/String" "COMPACT_STRINGS" "Z" ∈ tables_1 := by decide +kernel
theorem ls_1 : Cond.laysStatic "jdk/internal/util/Preconditions" "SIOOBE_FORMATTER" "Ljava/util/function/BiFunction;" ∈ tables_1 := by decide +kernel
def flN : List Cond := flatC (Jvm.Cond.and given_1 narrow_1)
theorem lx_0 : Cond.eq (.static "java/lang/String" "COMPACT_STRINGS" "Z") (.int 1) ∈ flN := by decide +kernel
theorem lx_1 : Cond.isRef (.static "jdk/internal/util/Preconditions" "SIOOBE_FORMATTER" "Ljava/util/function/BiFunction;") ∈ flN := by decide +kernel
theorem lx_ex : ∀ i, i < 8 → Cond.exactly (tmS i) "java/lang/String" ∈ flN := by decide +kernel
theorem lx_co : ∀ i, i < 8 → Cond.eq (.field (tmS i) "java/lang/String" "coder" "B") (.int 0) ∈ flN := by decide +kernel
theorem lx_ar : ∀ i, i < 8 → Cond.arrayOf (.field (tmS i) "java/lang/String" "value" "[B") .byte ∈ flN := by decide +kernel
theorem lx_le : ∀ i, i < 8 → Cond.eq (.length (.field (tmS i) "java/lang/String" "value" "[B")) (.int (Int32.ofNat (lenS.getD i 0))) ∈ flN := by decide +kernel
theorem lx_el : ∀ i, i < 8 → ∀ j, j < lenS.getD i 0 → Cond.eq (.elem (.field (tmS i) "java/lang/String" "value" "[B") (.int (Int32.ofNat j))) (.int ((bytS.getD i []).getD j 0)) ∈ flN := by decide +kernel
theorem lx_eq : ∀ i, i < 16 → 8 ≤ i → Cond.eq (tmS (sRep i)) (tmS i) ∈ flN := by decide +kernel
theorem lx_rep : ∀ i, i < 16 → sRep i < 8 ∧ (i < 8 → sRep i = i) ∧ lenS.getD (sRep i) 0 = lenS.getD i 0 ∧ bytS.getD (sRep i) [] = bytS.getD i [] ∧ lenS.getD i 0 < 100 := by decide +kernel
theorem eqR {args : Array Value} {s : State} {t u : Term} {a : Nat} (h : (Cond.eq t u).before args s = true) (ht : t.eval args s none [] s = some (.ref a)) : u.eval args s none [] s = some (.ref a) := by
  cases hv : u.eval args s none [] s with
  | none => simp [Cond.before, Cond.holds, Cond.value, hv, ht] at h
  | some w =>
    simp only [Cond.before, Cond.holds, Cond.value, hv, ht] at h
    cases w <;> simp_all
theorem b3 {a idx i x y z : Nat} (h : band3 (Nat.beq a x) (Nat.beq idx y) (Nat.beq i z) = true) : a = x ∧ idx = y ∧ i = z := by
  unfold band3 at h
  rcases z1 : Nat.beq a x with _ | _ <;> rw [z1] at h
  · cases h
  rcases z2 : Nat.beq idx y with _ | _ <;> rw [z2] at h
  · cases h
  exact ⟨Nat.eq_of_beq_eq_true z1, Nat.eq_of_beq_eq_true z2, Nat.eq_of_beq_eq_true h⟩
theorem strOk_t {a idx i : Nat} (h : strOk a idx i = true) : i < 16 ∧ cN a = sOwn i ∧ idx = sIdx i := by
  unfold strOk at h
  rcases Bool.eq_false_or_eq_true (band3 (Nat.beq a 4) (Nat.beq idx 62) (Nat.beq i 0)) with z | z
  · obtain ⟨rfl, rfl, rfl⟩ := b3 z
    exact ⟨by decide, rfl, rfl⟩
  rw [z, cond_false] at h
  rcases Bool.eq_false_or_eq_true (band3 (Nat.beq a 4) (Nat.beq idx 101) (Nat.beq i 1)) with z | z
  · obtain ⟨rfl, rfl, rfl⟩ := b3 z
    exact ⟨by decide, rfl, rfl⟩
  rw [z, cond_false] at h
  rcases Bool.eq_false_or_eq_true (band3 (Nat.beq a 4) (Nat.beq idx 72) (Nat.beq i 2)) with z | z
  · obtain ⟨rfl, rfl, rfl⟩ := b3 z
    exact ⟨by decide, rfl, rfl⟩
  rw [z, cond_false] at h
  rcases Bool.eq_false_or_eq_true (band3 (Nat.beq a 4) (Nat.beq idx 110) (Nat.beq i 3)) with z | z
  · obtain ⟨rfl, rfl, rfl⟩ := b3 z
    exact ⟨by decide, rfl, rfl⟩
  rw [z, cond_false] at h
  rcases Bool.eq_false_or_eq_true (band3 (Nat.beq a 4) (Nat.beq idx 116) (Nat.beq i 4)) with z | z
  · obtain ⟨rfl, rfl, rfl⟩ := b3 z
    exact ⟨by decide, rfl, rfl⟩
  rw [z, cond_false] at h
  rcases Bool.eq_false_or_eq_true (band3 (Nat.beq a 4) (Nat.beq idx 77) (Nat.beq i 5)) with z | z
  · obtain ⟨rfl, rfl, rfl⟩ := b3 z
    exact ⟨by decide, rfl, rfl⟩
  rw [z, cond_false] at h
  rcases Bool.eq_false_or_eq_true (band3 (Nat.beq a 4) (Nat.beq idx 82) (Nat.beq i 6)) with z | z
  · obtain ⟨rfl, rfl, rfl⟩ := b3 z
    exact ⟨by decide, rfl, rfl⟩
  rw [z, cond_false] at h
  rcases Bool.eq_false_or_eq_true (band3 (Nat.beq a 4) (Nat.beq idx 87) (Nat.beq i 7)) with z | z
  · obtain ⟨rfl, rfl, rfl⟩ := b3 z
    exact ⟨by decide, rfl, rfl⟩
  rw [z, cond_false] at h
  rcases Bool.eq_false_or_eq_true (band3 (Nat.beq a 8) (Nat.beq idx 91) (Nat.beq i 8)) with z | z
  · obtain ⟨rfl, rfl, rfl⟩ := b3 z
    exact ⟨by decide, rfl, rfl⟩
  rw [z, cond_false] at h
  rcases Bool.eq_false_or_eq_true (band3 (Nat.beq a 8) (Nat.beq idx 93) (Nat.beq i 9)) with z | z
  · obtain ⟨rfl, rfl, rfl⟩ := b3 z
    exact ⟨by decide, rfl, rfl⟩
  rw [z, cond_false] at h
  rcases Bool.eq_false_or_eq_true (band3 (Nat.beq a 8) (Nat.beq idx 95) (Nat.beq i 10)) with z | z
  · obtain ⟨rfl, rfl, rfl⟩ := b3 z
    exact ⟨by decide, rfl, rfl⟩
  rw [z, cond_false] at h
  rcases Bool.eq_false_or_eq_true (band3 (Nat.beq a 8) (Nat.beq idx 97) (Nat.beq i 11)) with z | z
  · obtain ⟨rfl, rfl, rfl⟩ := b3 z
    exact ⟨by decide, rfl, rfl⟩
  rw [z, cond_false] at h
  rcases Bool.eq_false_or_eq_true (band3 (Nat.beq a 8) (Nat.beq idx 99) (Nat.beq i 12)) with z | z
  · obtain ⟨rfl, rfl, rfl⟩ := b3 z
    exact ⟨by decide, rfl, rfl⟩
  rw [z, cond_false] at h
  rcases Bool.eq_false_or_eq_true (band3 (Nat.beq a 8) (Nat.beq idx 101) (Nat.beq i 13)) with z | z
  · obtain ⟨rfl, rfl, rfl⟩ := b3 z
    exact ⟨by decide, rfl, rfl⟩
  rw [z, cond_false] at h
  rcases Bool.eq_false_or_eq_true (band3 (Nat.beq a 8) (Nat.beq idx 102) (Nat.beq i 14)) with z | z
  · obtain ⟨rfl, rfl, rfl⟩ := b3 z
    exact ⟨by decide, rfl, rfl⟩
  rw [z, cond_false] at h
  rcases Bool.eq_false_or_eq_true (band3 (Nat.beq a 8) (Nat.beq idx 104) (Nat.beq i 15)) with z | z
  · obtain ⟨rfl, rfl, rfl⟩ := b3 z
    exact ⟨by decide, rfl, rfl⟩
  rw [z, cond_false] at h
  cases h
theorem nestOk_t {a idx k : Nat} (h : nestOk a idx k = true) : k = 149 ∧ (a, idx) ∈ ([(2, 119), (5, 70)] : List (Nat × Nat)) := by
  refine ⟨nest_k h, ?_⟩
  unfold nestOk at h
  rcases Bool.eq_false_or_eq_true (band3 (Nat.beq a 5) (Nat.beq idx 70) (Nat.beq k 149)) with z | z
  · obtain ⟨rfl, rfl, rfl⟩ := b3 z
    decide
  rw [z, cond_false] at h
  rcases Bool.eq_false_or_eq_true (band3 (Nat.beq a 2) (Nat.beq idx 119) (Nat.beq k 149)) with z | z
  · obtain ⟨rfl, rfl, rfl⟩ := b3 z
    decide
  rw [z, cond_false] at h
  cases h
theorem inst_all : allR (fun c => elem4 (7, c, 0, 0) wcs) 0 9 = true := by decide +kernel
theorem arrs_all : elem4 (12, 1, 0, 0) wcs = true ∧ elem4 (12, 2, 0, 0) wcs = true ∧ elem4 (12, 3, 0, 0) wcs = true := by decide +kernel
theorem arr_k {args : Array Value} {s : State} {ty : FieldType} (h : (Cond.arrayClass ty).before args s = true) : ∃ cA : ClassId, ArrOfT s cA ty ∧ s.vm.findClass ("[" ++ ty.toString) = some cA := by
  obtain ⟨cA, kA, comp, h1, h2, h3⟩ := Cond.arrayClass_spec h
  exact ⟨cA, fun n z => ⟨fun k h => (by cases h), kA, h2, comp, h3⟩, h1⟩
theorem start_G {s : State} {args : Array Value} (hts : ∀ w ∈ lw_tbl, w.before args s = true) (hgv : (Jvm.Cond.and given_1 narrow_1).before args s = true) : ∃ G : GT, GS G s ∧ TXc G (fun q => s.heap.size ≤ q) s s.heap := by
  have hfl : ∀ c ∈ flN, c.before args s = true := flat_of_before _ hgv
  have htg : ∀ w ∈ gw, w.before args s = true := fun w hw => hts w (gw_in w hw)
  have hA : ∀ a : Nat, a < s.heap.size → ¬ (fun q : Nat => s.heap.size ≤ q) a := fun a h => Nat.not_le.mpr h
  -- the classes
  have h0 : ∀ c, ∃ q : ClassId × (Nat → Nat), c < 9 → u_Kn s (cN c) (cTb c) (nF c) q.1 q.2 := by
    intro c
    by_cases hc : c < 9
    · have w := htg _ (gw_of (allR_at (f := fun c => elem4 (7, c, 0, 0) wcs) 9 0 c inst_all (by omega) (by omega)) rfl)
      rw [wd_7] at w
      obtain ⟨cC, iS, h⟩ := u_known htg (fld_in hc) w
      exact ⟨(cC, iS), fun _ => h⟩
    · exact ⟨(0, fun _ => 0), fun h => absurd h hc⟩
  obtain ⟨dd, hdd⟩ := Classical.axiomOfChoice h0
  -- the rows
  obtain ⟨c1, a1, n1⟩ := arr_k (ty := .int) (htg (wd (12, 1, 0, 0)) (gw_of arrs_all.1 rfl))
  obtain ⟨c2, a2, n2⟩ := arr_k (ty := .byte) (htg (wd (12, 2, 0, 0)) (gw_of arrs_all.2.1 rfl))
  obtain ⟨c3, a3, n3⟩ := arr_k (ty := .long) (htg (wd (12, 3, 0, 0)) (gw_of arrs_all.2.2 rfl))
  -- the texts
  have h1 : ∀ i : Nat, ∃ q : Nat × Nat, i < 8 → (tmS i).eval args s none [] s = some (.ref q.1) ∧ TX1 (lenS.getD i 0) (bytS.getD i []) q.1 q.2 (fun q => s.heap.size ≤ q) s s.heap := by
    intro i
    by_cases hi : i < 8
    · obtain ⟨a, c, cA, kA, q1, q2, q3, q4, q5, q6, -⟩ := Cond.exactly_spec (args := args) (first := s) (o := none) (s := s) (idx := []) (t := tmS i) (cls := "java/lang/String") (hfl _ (lx_ex i hi))
      have hlen : lenS.getD i 0 < 2 ^ 31 := by
        have := (lx_rep i (by omega)).2.2.2.2
        omega
      obtain ⟨t, ht, hT⟩ := va_Tof (f := fun j => .int ((bytS.getD i []).getD j 0)) (A := fun q => s.heap.size ≤ q) hlen (hfl _ (lx_ar i hi)) (va_eqt (hfl _ (lx_le i hi))) (fun j hj => va_eqt (hfl _ (lx_el i hi j hj))) hA
      exact ⟨(a, t), fun _ => ⟨q1, ⟨cA, q3, q5, by rw [q6]; exact q2, hA a (Array.getElem?_eq_some_iff.mp q3).1⟩, vk_OFof q1 (va_eqt (hfl _ (lx_co i hi))) hA, vk_OFof q1 ht hA, hT⟩⟩
    · exact ⟨(0, 0), fun h => absurd h hi⟩
  obtain ⟨tt, htt⟩ := Classical.axiomOfChoice h1
  have hev : ∀ i, i < 16 → (tmS i).eval args s none [] s = some (.ref (tt (sRep i)).1) := by
    intro i hi
    obtain ⟨r1, r2, -⟩ := lx_rep i hi
    have e1 := (htt (sRep i) r1).1
    by_cases hi2 : i < 8
    · rw [r2 hi2] at e1 ⊢
      exact e1
    · exact eqR (hfl _ (lx_eq i hi (by omega))) e1
  refine ⟨((fun c => (dd c).1, fun c => (dd c).2), fun k => if k = 1 then c1 else if k = 2 then c2 else c3, fun i => (tt (sRep i)).1), ⟨⟨fun c q hq => ?_, fun k q hq => ?_⟩, fun a i k h => ?_, fun a i k h => ?_⟩, ⟨fun i => (tt (sRep i)).2, fun i hi => ?_⟩, ?_, ?_⟩
  · have hc : c < 9 := (List.getElem?_eq_some_iff.mp hq).1
    rw [cls_at hc] at hq
    cases hq
    exact hdd c hc
  · match k, hq with
    | 0, hq => cases hq; exact ⟨a1, n1⟩
    | 1, hq => cases hq; exact ⟨a2, n2⟩
    | 2, hq => cases hq; exact ⟨a3, n3⟩
    | k + 3, hq => simp [tys0] at hq
  · obtain ⟨rfl, h2⟩ := nestOk_t h
    exact va_Nw.of rfl (hts _ (tb_in (nl_0 (a, i) h2)))
  · obtain ⟨hk, e1, rfl⟩ := strOk_t h
    rw [e1]
    have g1 := hts _ (tb_in (sr_all k hk))
    exact vk_R.of g1 (hev k hk)
  · obtain ⟨r1, -, r3, r4, -⟩ := lx_rep i hi
    have := (htt (sRep i) r1).2
    rw [r3, r4] at this
    exact this
  · exact va_Zof (hts _ (tb_in ls_0)) (htg _ ji_0) (va_eqt (hfl _ lx_0)) hA
  · exact va_Zqof (hts _ (tb_in ls_1)) (htg _ ji_2) (hfl _ lx_1) hA
/-- what is to be shown of the law's run by the small machine -/
def LawRuns : Prop := ∀ (N : Nat) (σ : Sto), N ≤ 6 → okS σ → ∃ (F : Nat) (σ' : Sto), exec N F 0 0 (mkL 0 [vR 999 0]) [] (0, [], σ) = some (some (vI 1), P σ')
theorem slN_55 : slN 55 = 60185 := by decide +kernel
theorem ret_law {pc : Nat} (h : EndAt 0 pc (some (vI 1))) : decode code (bpc 0 pc) = .ok (.ireturn, 1) := h.1
end
section
theorem law_runs : LawRuns := sorry
/-! THE CLAIM OUT OF ONE WALK OF THE LAW'S BODY. Your part is whole_start (and what it stands on); all else here is the same for every law, but numbers. -/
def R_law : String := "TwinSlotsLaw"
def lw_P (b : Addr) (xs : List Int32) (args : Array Value) (s : State) : Prop := args = #[.ref b] ∧ s.IntsAt b xs ∧ xs.length ≤ 6 ∧ (Jvm.Cond.and given_1 narrow_1).before args s = true
def lw_Q (_ : Array Value) (s : State) (o : Outcome) (t : State) : Prop := o = .returned (some (.int 1)) ∧ Framed s o t [] 55 60185
def lw_Z (below : List Frame) (a : Array Value) (s : State) : State → Prop := fun t => ∃ o, t.status = .running ∧ Ended t below o ∧ lw_Q a s o t
/-- the law's own end, with 1 on the stack, nothing written that was there before, its room as the claim has it -/
theorem lw_ret {p : Program} {l : Launch} {e : Env} {s : State} {m : MethodId} {below : List Frame} {meth : Method} {c : Code} {b : Nat} (hx : p.tables.exec = Jvm.exec) (hb : c.code = code) (hr : meth.sig.returnType = ret) (hlocks : meth.locks = false) {pc : Nat} {H : Heap} {ls : Array Slot} (hdg : decode code pc = .ok (.ireturn, 1)) : W p l e room_1 s m #[Value.ref b] below meth c H [] 55 60185 (lw_Z below #[Value.ref b] s) (F0 m pc ls [.int 1]) := by
  intro T hT X
  obtain ⟨fs, hret, hrun, hended, hW, hframe⟩ := X.leave (v := some (.int 1)) (hlocks := hlocks) (fun h => by rw [hr] at h; cases h)
  have hmeth' : T.vm.method? m = some meth := X.method'
  refine ⟨T.setFrames fs, ?_, .returned (some (.int 1)), hrun, hended, rfl, ⟨_, rfl⟩, hW, hframe⟩
  jvm_step X.here [X.here.top, hx, hb, hdg, hmeth', hr, ret, narrow_b1]
  (try refine ⟨rfl, ?_⟩); (try refine ⟨rfl, ?_⟩)
  first | (intro acts; rw [hret _ acts rfl rfl rfl]) | rw [hret _ _ rfl rfl rfl]
  exact Steps.refl _
/-- what holds at the law's entry: the machine, the code, the tables' words (any of lw_tbl by 'hts w (by decide +kernel)'), the script of L ints xs at the cell b, what the Statement gives of the start (any of its parts by flat_of_before) -/
def lw_At (p : Program) (s : State) (m : MethodId) (meth : Method) (c : Code) (b L : Nat) (xs : Nat → Int32) : Prop :=
  p.tables.exec = Jvm.exec ∧ c.code = code ∧ meth.sig.returnType = ret ∧ c.maxLocals = 4 ∧ s.vm.findClass R_law = some m.cls ∧ (∀ w ∈ lw_tbl, w.before #[Value.ref b] s = true) ∧ va_X b L xs s s.heap ∧ b < s.heap.size ∧ meth.locks = false ∧ (Jvm.Cond.and given_1 narrow_1).before #[Value.ref b] s = true
set_option maxHeartbeats 1000000 in
theorem whole_start {p : Program} {e : Env} {s : State} {m : MethodId} {below : List Frame} {meth : Method} {c : Code} (l : Launch) (hflags : l.flags = flags0) {b L : Nat} {xs : Nat → Int32} (hL : L ≤ 6) (C0 : lw_At p s m meth c b L xs) : W p l e room_1 s m #[Value.ref b] below meth c s.heap [] 0 0 (lw_Z below #[Value.ref b] s) (entryFrame m ([Value.ref b] : List Value).toArray 4) := by
  obtain ⟨hx, hb, hr, hml, hown, hts, hX, hbl, hlocks, hgv⟩ := C0
  obtain ⟨G, hGS, hTX⟩ := start_G hts hgv
  have hok : okS (fun k i j => if k = 999 ∧ i = 0 then (xs j).toInt else 0) := by
    intro k i j
    dsimp only
    split
    · exact ⟨in32_64 (in32_of _), fun _ => in32_of _⟩
    · exact ⟨in64_0, fun _ => in32_0⟩
  obtain ⟨F, σ', he⟩ := law_runs L _ hL hok
  have hA : ∀ q : Nat, s.heap.size ≤ q → (fun q : Nat => s.heap.size ≤ q) q := fun _ h => h
  have hC : Cx L 0 G b xs p room_1 s m #[Value.ref b] meth c (fun q : Nat => s.heap.size ≤ q) s.heap := ⟨by decide, hx, hb, hml, hown, fun w hw => hts w (gw_in w hw), fun h => (by cases h), by decide, by decide, hGS, hA, hX, hbl, Nat.not_le.mpr hbl, hTX, by omega⟩
  have hl := lv_entry ([.ref b]) (n := 4) (Nat.le_of_ble_eq_true rfl)
  rw [lg_entry_eq]
  generalize (lg_sl ([.ref b]) ++ List.replicate (4 - (lg_sl ([.ref b])).length) Slot.unset).toArray = ls at hl ⊢
  have k0 := walk L l F 0 G b xs (some (vI 1), P σ') p e room_1 s m #[Value.ref b] below meth c _ _ (lw_Z below #[Value.ref b] s) hC 0 (mkL 0 [vR 999 0]) [] (0, [], fun k i j => if k = 999 ∧ i = 0 then (xs j).toInt else 0) (fun k i => if k = 999 then b else G.2.2 i) s.heap [] 0 0 ls he
  refine k0 ⟨⟨fun k q h => by simp [wl] at h, ⟨fun i j p q h => by simp [wl] at h, fun k q h => by simp [wl] at h⟩, va_S.rf, rfl, fun i _ => rfl, hok, fun q hq => ?_, fun j _ => ?_⟩, fun v hv => ?_, fun v hv => absurd hv List.not_mem_nil, fun _ v hv => ?_, locs_entry hl, padX_len _ _, ?_, ?_, ?_⟩
  · obtain ⟨a, ha, -⟩ := hq
    exact absurd ha (Nat.not_lt_zero a)
  · exact of32 (xs j)
  · rcases mkL_mem hv with h | h
    · rw [h]; trivial
    · rw [List.mem_singleton.mp h]
      exact Or.inr (Or.inl rfl)
  · rcases mkL_mem hv with h | h
    · rw [h]; rfl
    · rw [List.mem_singleton.mp h]; rfl
  · show 0 + 55 ≤ 55 + 0
    omega
  · show 0 + slN 55 ≤ 60185 + slN 0
    rw [slN_55]
    omega
  · intro ad1 H1 locs1 cells1 slots1 pc1 ls1 hag hW hc1 hs1 hE hV
    have hc2 : cells1 + 0 = 0 + 55 := hc1
    have hs2 : slots1 + slN 0 = 0 + slN 55 := hs1
    rw [slN_55] at hs2
    have hs0 : slN 0 = 0 := rfl
    refine va_forget (fun q hq => hW.2.2.1.2.2 q hq) ?_
    refine W.widen (k := 55) (n := 60185) (by omega) (by omega) ?_
    exact lw_ret hx hb hr hlocks (ret_law hE)
-- ===== YOUR PART ENDS =====
set_option maxHeartbeats 4000000 in
theorem lw_walk (l : Launch) (hflags : l.flags = flags0) (b : Addr) (xs : List Int32) : MetFree l x (headSpec (Jvm.Cond.code x code maxLocals ret :: tables_1) room_1) (lw_P b xs) (fun _ _ _ _ _ => True) lw_Q := by
  refine MetFree.of_bodyS (code := code) (maxLocals := maxLocals) (ret := ret) (by decide) ?_ ?_
  · intro args s m h hn
    obtain ⟨meth, c, h1, h2, h3, h4, h5, h6, -, -⟩ := Cond.code_spec hn (atoms_spec (ws := Jvm.Cond.code x code maxLocals ret :: tables_1) h _ List.mem_cons_self)
    exact ⟨meth, c, h1, h2, h3, h4, h5, h6⟩
  · intro p e s m args below meth c s₁ B hml0 hP _
    obtain ⟨rfl, hx, hbd, hgv⟩ := hP
    obtain ⟨scr, harrAt, hlist, hof, hsmall⟩ := hx
    obtain ⟨hcb, hkn, -, -⟩ := State.arrayAt?_spec harrAt
    have hown : s.vm.findClass R_law = some m.cls := findClass_of_methodNamed B.named
    have hts0 : ∀ c ∈ (Jvm.Cond.code x code maxLocals ret :: tables_1), c.before #[Value.ref b] s = true := atoms_spec (ws := Jvm.Cond.code x code maxLocals ret :: tables_1) B.pre
    have hts : ∀ w ∈ lw_tbl, w.before #[Value.ref b] s = true := k2_hts_sels lw_privs (fun w hw => hts0 w (List.mem_cons_of_mem _ hw)) lw_privs_ok
    have hml : c.maxLocals = 4 := B.maxLocals_eq (hts0 _ List.mem_cons_self)
    have X₀ : Stand p l e room_1 s m #[Value.ref b] below meth c s₁ [] 0 0 := Stand.of_body B
    have hh0 : s₁.heap = s.heap := by rw [B.state]; rfl
    have hsz : scr.slots.size = xs.length := by rw [← Array.length_toList, hlist, List.length_map]
    have hval : ∀ j : Nat, j < xs.length → scr.slots[j]? = some (.int (xs.getD j 0)) := fun j hj => by
      rw [← Array.getElem?_toList, hlist]
      simp [hj]
    have hbl : b < s.heap.size := (Array.getElem?_eq_some_iff.mp hcb).1
    have hX : va_X b xs.length (fun j => xs.getD j 0) s s.heap := ⟨scr, hcb, hof, hkn, hsz, hval⟩
    have K : W p l e room_1 s m #[Value.ref b] below meth c s₁.heap [] 0 0 (lw_Z below #[Value.ref b] s) (entryFrame m ([Value.ref b] : List Value).toArray 4) := by
      rw [hh0]
      exact whole_start l hflags hbd ⟨B.exec, B.bytes, B.returns, hml, hown, hts, hX, hbl, B.notSynchronized, hgv⟩
    obtain ⟨t, a1, o, b1, b2, b3⟩ := K s₁ rfl X₀
    exact ⟨t, o, a1, b1, b2, b3⟩
theorem lw_pre_spec {args : Array Value} {s : State} (h : (Jvm.Cond.and given_1 narrow_1).before args s = true) (hr : rest_1_c.before args s = true) : ∃ (b : Addr) (xs : List Int32), lw_P b xs args s := by
  have hs := flat_of_before _ h
  have hq := flat_of_before _ hr
  have hc : (Cond.count 1).before args s = true := hs _ (by decide +kernel)
  have harr : (Cond.arrayOf (.arg 0) .int).before args s = true := hs _ (by decide +kernel)
  have hle : (Cond.le (.length (.arg 0)) (.int 6)).before args s = true := hs _ (by decide +kernel)
  have hlen : (Cond.isInt (.length (.arg 0))).before args s = true := hq _ (by decide +kernel)
  have hall : (Cond.all (.arg 0) (.isInt (.elem (.arg 0) (.index 0)))).before args s = true := hq _ (by decide +kernel)
  obtain ⟨b, xs, hb, hx⟩ := State.ints_of_pre rfl harr hlen hall
  have hsm : xs.length < 2 ^ 31 := hx.choose_spec.2.2.2
  have hev : (Term.length (.arg 0)).eval args s none [] s = some (.int xs.length.toInt32) := hx.length_eval hb
  have hv := Cond.le_ints hev (show (Term.int 6).eval args s none [] s = some (.int 6) from rfl)
  have hd : xs.length.toInt32 ≤ 6 := by
    simpa [Cond.before, Cond.holds, hv] using hle
  have hN : xs.length ≤ 6 := (Int32.ofNat_le_ofNat hsm (by decide)).mp (show Int32.ofNat xs.length ≤ Int32.ofNat 6 from hd)
  exact ⟨b, xs, Cond.one_arg hc (show args[0]? = some (.ref b) from hb), hx, hN, h⟩
theorem lw_comes (l : Launch) (hflags : l.flags = flags0) : Comes l x (Jvm.Cond.code x code maxLocals ret :: tables_1) room_1 (fun tb e args s => Calls_1 tb e args s ∧ rest_1 tb e args s ∧ Pre_1 tb e args s)
    (fun _ _ args s o t => lw_Q args s o t) := by
  intro p e ha hc hk s m args below hf hfit hheap happ hpre
  obtain ⟨b, xs, hP⟩ := lw_pre_spec hpre.2.2 hpre.2.1
  obtain ⟨k, o, h1, h2, h3, hQ⟩ := lw_walk l hflags b xs p e ha hc hk s m args below hf ((Spec.applies_iff_loose hf).mp happ).1 hP trivial
  exact ⟨k, o, h1, h2, h3, hQ⟩
theorem lw_frame {s t : State} {o : Outcome} {args : Array Value} (h : Framed s o t [] 55 60185) :
    Framed s o t (fieldLocs frame_1_writes args s ++ arrayLocs frame_1_arrays args s ++ staticLocs frame_1_statics s) 55 60185 := h
theorem lw_limb (L : Cond) (hL : ∀ (args : Array Value) (s t : State), L.after args s (.returned (some (.int 1))) t = true) :
    ArmFor flags0 classFile x code maxLocals ret World_1 tables_1 room_1 Calls_1 rest_1 Pre_1
      (fun tb e a s o t => postC L tb e a s o t ∧ Framed s o t (fieldLocs frame_1_writes a s ++ arrayLocs frame_1_arrays a s ++ staticLocs frame_1_statics s) 55 60185) := by
  intro l hflags _ _ p e ha hc hk s m args below hf hfit hheap happ hpre
  obtain ⟨k, o, h1, h2, h3, rfl, hF⟩ := lw_comes l hflags p e ha hc hk s m args below hf hfit hheap happ hpre
  exact ⟨k, _, h1, h2, h3, hL args s _, lw_frame hF⟩
theorem i_vc : Claimed_1_1 ∧ Claimed_1_2 := ⟨lw_limb limb_1_1 (fun args s t => by simp [limb_1_1, Cond.after, Cond.holds, Cond.value]), lw_limb limb_1_2 (fun args s t => Cond.after_iff.mpr (by
  first | (rw [show limb_1_2 = Cond.eq .result (.int 1) from rfl, Cond.eq_ints (x := 1) (y := 1) rfl rfl]; simp; done) | (simp [limb_1_2, Cond.value, Term.eval]; done)))⟩
end
