theorem xMC (z : xZ) (hz : z.1 ≤ 3584) (hi : Nat → Nat → Int32) (hl : Nat → Nat → Int64) (hI : xInit hi hl) : ∃ st, F_L_law_18 z 1000000 0 hi hl xr0 = some (1, st) := sorry
