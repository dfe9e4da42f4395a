def pX5_in (a0 : Int32) (a1 : Int32) (a2 : Int32) : Int32 := if a0 < a1 then 0 else if a2 < a0 then 0 else 1
def pX5_things_4 (c : HS) : Nat → Int32 → Int32 → Option (Int32)
  | 0, _, _ => none
  | n + 1, v1, v2 => if (64 * (c.1 0 0)) ≤ v2 then some v1 else ldA c 6 1536 v2 fun x1 => if x1 = 0 then pX5_things_4 c n (v1 + 0) (v2 + 1) else pX5_things_4 c n (v1 + 1) (v2 + 1)
def pX5_things (c : HS)  : Option (Int32) := pX5_things_4 c FU 0 0
def pX5_open_77 : Nat → HS → Int32 → Int32 → Int32 → Option (Int32 × HS)
  | 0, _, _, _, _ => none
  | n + 1, c, v1, v2, v3 => if 10 ≤ v3 then pfA c 0 v1 fun c1 => pfA c1 1 0 fun c2 => pfA c2 2 0 fun c3 => pfA c3 3 0 fun c4 => pfA c4 6 0 fun c5 => some (v2, c5) else stA c 11 10 v3 ((-1)) fun c6 => pX5_open_77 n c6 v1 v2 (v3 + 1)
def pX5_open_42 : Nat → HS → Int32 → Int32 → Int32 → Option (Int32 × HS)
  | 0, _, _, _, _ => none
  | n + 1, c, v1, v2, v3 => if 24 ≤ v3 then pX5_open_77 FU c v1 v2 0 else stA c 1 24 v3 0 fun c9 => stZ c9 3 24 v3 0 fun c11 => stZ c11 4 24 v3 0 fun c13 => pX5_open_42 n c13 v1 v2 (v3 + 1)
def pX5_open_20 : Nat → HS → Int32 → Int32 → Int32 → Option (Int32 × HS)
  | 0, _, _, _, _ => none
  | n + 1, c, v1, v2, v3 => if 1536 ≤ v3 then pX5_open_42 FU c v1 v2 0 else stZ c 6 1536 v3 0 fun c16 => pX5_open_20 n c16 v1 v2 (v3 + 1)
def pX5_open (c : HS) (a1 : Int32) : Option (Int32 × HS) := if (pX5_in a1 1 24) = 0 then some ((-102), c) else bd1 (pX5_things c) fun r20 => pX5_open_20 FU c a1 r20 0
def pX5_way (c : HS) (a1 : Int32) : Option (Int32 × HS) := if (pX5_in a1 0 1) = 0 then some ((-102), c) else bd1 (pX5_things c) fun r2 => if r2 ≤ 0 then pfA c 5 a1 fun c3 => some (c.1 0 5, c3) else some ((-103), c)
def pX5_auto (c : HS) (a1 : Int32) : Option (Int32 × HS) := if (c.1 0 4) = 0 then gdZ a1 (pfA c 4 a1 fun c1 => some (0, c1)) else gdZ a1 (pfA c 4 a1 fun c3 => some (1, c3))
def pX5_classOf_4 : Nat → Int32 → Int32 → Int32 → Option (Int32)
  | 0, _, _, _ => none
  | n + 1, v0, v1, v2 => if 5 ≤ v1 then some v1 else if v0 ≤ v2 then some v1 else pX5_classOf_4 n v0 (v1 + 1) (v2 * 2)
def pX5_classOf (a0 : Int32) : Option (Int32) := pX5_classOf_4 FU a0 0 2
def pX5_isOpen (c : HS) (a1 : Int32) (a2 : Int32) : Option (Int32) := ldA c 1 24 a1 fun x1 => if x1 = 0 then if a2 = 0 then some 1 else ldA c 4 24 a1 fun x3 => if x3 = 0 then some 1 else some 0 else some 0
def pX5_large_104 (k77 : HS → Int32 → Int32 → Int32 → Option (Int32 × HS)) (c : HS) (v3 : Int32) (v4 : Int32) (v6 : Int32) (s1 : Int32) (s2 : Int32) : Option (Int32 × HS) := stA c 1 24 s1 s2 fun c1 => stA c1 2 24 v6 5 fun c3 => stZ c3 4 24 v6 0 fun c5 => k77 c5 v3 v4 (v6 + 1)
def pX5_large_77 : Nat → HS → Int32 → Int32 → Int32 → Option (Int32 × HS)
  | 0, _, _, _, _ => none
  | n + 1, c, v3, v4, v6 => if (v4 + v3) ≤ v6 then some (64 * v4, c) else if v6 = v4 then pX5_large_104 (pX5_large_77 n) c v3 v4 v6 v6 2 else pX5_large_104 (pX5_large_77 n) c v3 v4 v6 v6 3
def pX5_large_31 (k13 : HS → Int32 → Int32 → Int32 → Option (Int32 × HS)) : Nat → HS → Int32 → Int32 → Int32 → Int32 → Int32 → Option (Int32 × HS)
  | 0, _, _, _, _, _, _ => none
  | n + 1, c, v2, v3, v4, v5, v6 => if (v4 + v3) ≤ v6 then if v5 = 0 then k13 c v2 v3 (v4 + 1) else pX5_large_77 FU c v3 v4 v4 else if v5 = 0 then pX5_large_31 k13 n c v2 v3 v4 0 (v6 + 1) else bd1 (pX5_isOpen c v6 v2) fun r11 => if r11 = 0 then pX5_large_31 k13 n c v2 v3 v4 0 (v6 + 1) else pX5_large_31 k13 n c v2 v3 v4 1 (v6 + 1)
def pX5_large_13 : Nat → HS → Int32 → Int32 → Int32 → Option (Int32 × HS)
  | 0, _, _, _, _ => none
  | n + 1, c, v2, v3, v4 => if (c.1 0 0) < (v4 + v3) then some ((-1), c) else pX5_large_31 (pX5_large_13 n) FU c v2 v3 v4 1 v4
def pX5_large (c : HS) (a1 : Int32) (a2 : Int32) : Option (Int32 × HS) := pX5_large_13 FU c a2 (((a1 + 64) - 1) / 64) 0
def pX5_cell (a0 : Int32) : Int32 := (2 <<< (a0 &&& 31))
def pX5_small_81 : Nat → HS → Int32 → Int32 → Int32 → Option (Int32 × HS)
  | 0, _, _, _, _ => none
  | n + 1, c, v1, v2, v3 => if (c.1 0 0) ≤ v3 then some ((-1), c) else bd1 (pX5_isOpen c v3 v2) fun r2 => if r2 = 0 then pX5_small_81 n c v1 v2 (v3 + 1) else stA c 1 24 v3 1 fun c3 => stA c3 2 24 v3 v1 fun c5 => stZ c5 4 24 v3 0 fun c7 => some (64 * v3, c7)
def pX5_small_16 (k2 : HS → Int32 → Int32 → Int32 → Option (Int32 × HS)) : Nat → HS → Int32 → Int32 → Int32 → Int32 → Option (Int32 × HS)
  | 0, _, _, _, _, _ => none
  | n + 1, c, v1, v2, v3, v4 => ldA c 1 24 v3 fun x11 => if x11 = 1 then ldA c 2 24 v3 fun x13 => if x13 = v1 then if ((64 * v3) + 64) ≤ v4 then k2 c v1 v2 (v3 + 1) else ldA c 6 1536 v4 fun x15 => if x15 = 0 then some (v4, c) else pX5_small_16 k2 n c v1 v2 v3 (v4 + (pX5_cell v1)) else k2 c v1 v2 (v3 + 1) else k2 c v1 v2 (v3 + 1)
def pX5_small_2 : Nat → HS → Int32 → Int32 → Int32 → Option (Int32 × HS)
  | 0, _, _, _, _ => none
  | n + 1, c, v1, v2, v3 => if (c.1 0 0) ≤ v3 then pX5_small_81 FU c v1 v2 0 else pX5_small_16 (pX5_small_2 n) FU c v1 v2 v3 (64 * v3)
def pX5_small (c : HS) (a1 : Int32) (a2 : Int32) : Option (Int32 × HS) := pX5_small_2 FU c a1 a2 0
def pX5_place (c : HS) (a1 : Int32) (a2 : Int32) : Option (Int32 × HS) := bd1 (pX5_classOf a1) fun r2 => if r2 = 5 then bd2 (pX5_large c a1 a2) fun r8 c7 => some (r8, c7) else bd2 (pX5_small c r2 a2) fun r5 c4 => some (r5, c4)
def pX5_isLogged_4 (c : HS) : Nat → Int32 → Int32 → Int32 → Option (Int32)
  | 0, _, _, _ => none
  | n + 1, v1, v2, v3 => if (c.1 0 2) ≤ v3 then gdZ v2 (some v2) else if v2 = 0 then ldA c 13 12 v3 fun x2 => if x2 = v1 then pX5_isLogged_4 c n v1 1 (v3 + 1) else pX5_isLogged_4 c n v1 0 (v3 + 1) else pX5_isLogged_4 c n v1 1 (v3 + 1)
def pX5_isLogged (c : HS) (a1 : Int32) : Option (Int32) := pX5_isLogged_4 c FU a1 0 0
def pX5_isRemembered_43 (c : HS) : Nat → Int32 → Int32 → Int32 → Option (Int32)
  | 0, _, _, _ => none
  | n + 1, v1, v2, v3 => ldA c 9 1536 v1 fun x1 => if x1 ≤ v3 then gdZ v2 (some v2) else if v2 = 0 then ldA c 3 24 ((v1 + v3) / 64) fun x4 => if x4 = 0 then pX5_isRemembered_43 c n v1 0 (v3 + 1) else pX5_isRemembered_43 c n v1 1 (v3 + 1) else pX5_isRemembered_43 c n v1 1 (v3 + 1)
def pX5_isRemembered (c : HS) (a1 : Int32) : Option (Int32) := ldA c 7 1536 a1 fun x9 => if x9 = 0 then some 0 else if (c.1 0 5) = 0 then if (c.1 0 3) = 0 then bd1 (pX5_isLogged c a1) fun r12 => if r12 = 0 then some 0 else some 1 else some 1 else pX5_isRemembered_43 c FU a1 0 0
def pX5_find (c : HS) (a1 : Int32) : Option (HS) := if a1 = ((-1)) then some c else ldA c 7 1536 a1 fun x1 => if x1 = 0 then stZ c 8 1536 a1 1 fun c3 => some c3 else some c
def pX5_findAll_2 : Nat → HS → Int32 → Int32 → Option (HS)
  | 0, _, _, _ => none
  | n + 1, c, v1, v2 => ldA c 9 1536 v1 fun x1 => if x1 ≤ v2 then ldA c 9 1536 v1 fun x3 => pfA c 11 ((c.1 0 11) + x3) fun c5 => some c5 else ldA c 5 1536 (v1 + v2) fun x6 => bd1 (pX5_find c x6) fun c9 => pX5_findAll_2 n c9 v1 (v2 + 1)
def pX5_findAll (c : HS) (a1 : Int32) : Option (HS) := pX5_findAll_2 FU c a1 0
def pX5_points_74 (c : HS) : Nat → Int32 → Option (Int32)
  | 0, _ => none
  | n + 1, v2 => ldA c 1 24 v2 fun x1 => if x1 = 3 then pX5_points_74 c n (v2 + (-1)) else some (64 * v2)
def pX5_points (c : HS) (a1 : Int32) : Option (Int32) := if (pX5_in a1 0 ((64 * (c.1 0 0)) - 1)) = 0 then some ((-1)) else ldA c 1 24 (a1 / 64) fun x4 => if x4 = 0 then some ((-1)) else ldA c 1 24 (a1 / 64) fun x6 => if x6 = 1 then ldA c 2 24 (a1 / 64) fun x8 => gdN (pX5_cell x8) (ldA c 6 1536 (a1 - (a1 - a1 / (pX5_cell x8) * (pX5_cell x8))) fun x11 => if x11 = 0 then some ((-1)) else some (a1 - (a1 - a1 / (pX5_cell x8) * (pX5_cell x8)))) else pX5_points_74 c FU (a1 / 64)
def pX5_size (c : HS) (a1 : Int32) : Option (Int32) := ldA c 9 1536 a1 fun x1 => ldA c 10 1536 a1 fun x3 => some (x1 + x3)
def pX5_blocksOf (c : HS) (a1 : Int32) : Option (Int32) := bd1 (pX5_size c a1) fun r2 => some (((r2 + 64) - 1) / 64)
def pX5_free_24 : Nat → HS → Int32 → Int32 → Int32 → Option (HS)
  | 0, _, _, _, _ => none
  | n + 1, c, v2, v3, v4 => if (v2 + v3) ≤ v4 then some c else stA c 1 24 v4 0 fun c1 => pX5_free_24 n c1 v2 v3 (v4 + 1)
def pX5_free (c : HS) (a1 : Int32) : Option (HS) := ldA c 1 24 (a1 / 64) fun x4 => if x4 = 2 then bd1 (pX5_blocksOf c a1) fun r7 => pX5_free_24 FU c (a1 / 64) r7 (a1 / 64) else some c
def pX5_used_7 (c : HS) : Nat → Int32 → Int32 → Int32 → Option (Int32)
  | 0, _, _, _ => none
  | n + 1, v1, v2, v3 => if ((64 * v1) + 64) ≤ v3 then some v2 else ldA c 6 1536 v3 fun x1 => if x1 = 0 then pX5_used_7 c n v1 (v2 + 0) (v3 + 1) else pX5_used_7 c n v1 (v2 + 1) (v3 + 1)
def pX5_used (c : HS) (a1 : Int32) : Option (Int32) := pX5_used_7 c FU a1 0 (64 * a1)
def pX5_tidy_61 (k12 : HS → Int32 → Option (HS)) : Nat → HS → Int32 → Int32 → Option (HS)
  | 0, _, _, _ => none
  | n + 1, c, v1, v2 => if (c.1 0 1) ≤ v2 then k12 c (v1 + 1) else ldA c 4 24 v1 fun x1 => if x1 = 0 then ldA c 1 24 v1 fun x5 => if x5 = 0 then ldA c 12 24 v2 fun x9 => if (pX5_in x9 (64 * v1) (((64 * v1) + 64) - 1)) = 0 then stZ c 4 24 v1 0 fun c11 => pX5_tidy_61 k12 n c11 v1 (v2 + 1) else stZ c 4 24 v1 1 fun c13 => pX5_tidy_61 k12 n c13 v1 (v2 + 1) else stZ c 4 24 v1 0 fun c7 => pX5_tidy_61 k12 n c7 v1 (v2 + 1) else stZ c 4 24 v1 1 fun c3 => pX5_tidy_61 k12 n c3 v1 (v2 + 1)
def pX5_tidy_52 (k12 : HS → Int32 → Option (HS)) (c : HS) (v1 : Int32) : Option (HS) := stZ c 4 24 v1 0 fun c19 => pX5_tidy_61 k12 FU c19 v1 0
def pX5_tidy_12 : Nat → HS → Int32 → Option (HS)
  | 0, _, _ => none
  | n + 1, c, v1 => if (c.1 0 0) ≤ v1 then some c else stZ c 3 24 v1 0 fun c21 => ldA c21 1 24 v1 fun x23 => if x23 = 1 then bd1 (pX5_used c21 v1) fun r26 => if r26 = 0 then stA c21 1 24 v1 0 fun c27 => pX5_tidy_52 (pX5_tidy_12 n) c27 v1 else pX5_tidy_52 (pX5_tidy_12 n) c21 v1 else pX5_tidy_52 (pX5_tidy_12 n) c21 v1
def pX5_tidy (c : HS)  : Option (HS) := pfA c 2 0 fun c32 => pfA c32 3 0 fun c33 => pX5_tidy_12 FU c33 0
def pX5_collect_220 : Nat → HS → Int32 → Int32 → Int32 → Option (Int32 × HS)
  | 0, _, _, _, _ => none
  | n + 1, c, v2, v4, v5 => if v2 ≤ v5 then bd1 (pX5_tidy c) fun c2 => some (v4, c2) else ldA c 6 1536 v5 fun x3 => if x3 = 0 then pX5_collect_220 n c v2 v4 (v5 + 1) else ldA c 7 1536 v5 fun x5 => if x5 = 0 then ldA c 8 1536 v5 fun x7 => if x7 = 0 then stZ c 6 1536 v5 0 fun c9 => bd1 (pX5_free c9 v5) fun c12 => pX5_collect_220 n c12 v2 (v4 + 1) (v5 + 1) else stZ c 7 1536 v5 1 fun c13 => pX5_collect_220 n c13 v2 v4 (v5 + 1) else pX5_collect_220 n c v2 v4 (v5 + 1)
def pX5_collect_163 (k154 : HS → Int32 → Int32 → Option (Int32 × HS)) : Nat → HS → Int32 → Int32 → Int32 → Option (Int32 × HS)
  | 0, _, _, _, _ => none
  | n + 1, c, v2, v3, v4 => if v2 ≤ v4 then k154 c v2 v3 else ldA c 8 1536 v4 fun x19 => if x19 = 0 then pX5_collect_163 k154 n c v2 v3 (v4 + 1) else ldA c 14 1536 v4 fun x21 => if x21 = 0 then stZ c 14 1536 v4 1 fun c23 => bd1 (pX5_findAll c23 v4) fun c26 => pX5_collect_163 k154 n c26 v2 1 (v4 + 1) else pX5_collect_163 k154 n c v2 v3 (v4 + 1)
def pX5_collect_154 : Nat → HS → Int32 → Int32 → Option (Int32 × HS)
  | 0, _, _, _ => none
  | n + 1, c, v2, v3 => if v3 = 0 then pX5_collect_220 FU c v2 0 0 else pX5_collect_163 (pX5_collect_154 n) FU c v2 0 0
def pX5_collect_124 : Nat → HS → Int32 → Int32 → Option (Int32 × HS)
  | 0, _, _, _ => none
  | n + 1, c, v2, v3 => if (c.1 0 1) ≤ v3 then pX5_collect_154 FU c v2 1 else ldA c 12 24 v3 fun x31 => bd1 (pX5_points c x31) fun r34 => bd1 (pX5_find c r34) fun c36 => pX5_collect_124 n c36 v2 (v3 + 1)
def pX5_collect_100 : Nat → HS → Int32 → Int32 → Option (Int32 × HS)
  | 0, _, _, _ => none
  | n + 1, c, v2, v3 => if 10 ≤ v3 then pX5_collect_124 FU c v2 0 else ldA c 11 10 v3 fun x38 => bd1 (pX5_find c x38) fun c41 => pX5_collect_100 n c41 v2 (v3 + 1)
def pX5_collect_61 : Nat → HS → Int32 → Int32 → Int32 → Option (Int32 × HS)
  | 0, _, _, _, _ => none
  | n + 1, c, v1, v2, v3 => if v2 ≤ v3 then pX5_collect_100 FU c v2 0 else if v1 = 0 then ldA c 6 1536 v3 fun x43 => if x43 = 0 then pX5_collect_61 n c v1 v2 (v3 + 1) else bd1 (pX5_isRemembered c v3) fun r46 => if r46 = 0 then pX5_collect_61 n c v1 v2 (v3 + 1) else bd1 (pX5_findAll c v3) fun c48 => pX5_collect_61 n c48 v1 v2 (v3 + 1) else pX5_collect_100 FU c v2 0
def pX5_collect_10 : Nat → HS → Int32 → Int32 → Int32 → Option (Int32 × HS)
  | 0, _, _, _, _ => none
  | n + 1, c, v1, v2, v3 => if v2 ≤ v3 then pX5_collect_61 FU c v1 v2 0 else stZ c 8 1536 v3 0 fun c53 => stZ c53 14 1536 v3 0 fun c55 => ldA c55 7 1536 v3 fun x57 => if x57 = 0 then stZ c55 7 1536 v3 0 fun c59 => pX5_collect_10 n c59 v1 v2 (v3 + 1) else if v1 = 0 then stZ c55 7 1536 v3 1 fun c63 => pX5_collect_10 n c63 v1 v2 (v3 + 1) else stZ c55 7 1536 v3 0 fun c61 => pX5_collect_10 n c61 v1 v2 (v3 + 1)
def pX5_collect (c : HS) (a1 : Int32) : Option (Int32 × HS) := pX5_collect_10 FU c a1 (64 * (c.1 0 0)) 0
def pX5_make_190 : Nat → HS → Int32 → Int32 → Int32 → Int32 → Option (Int32 × HS)
  | 0, _, _, _, _, _ => none
  | n + 1, c, v1, v2, v3, v4 => if (v1 + v2) ≤ v4 then pfA c 7 ((c.1 0 7) + 1) fun c1 => some (v3, c1) else if v1 ≤ v4 then stA c 5 1536 (v3 + v4) 0 fun c2 => pX5_make_190 n c2 v1 v2 v3 (v4 + 1) else stA c 5 1536 (v3 + v4) ((-1)) fun c4 => pX5_make_190 n c4 v1 v2 v3 (v4 + 1)
def pX5_make_151 (c : HS) (v1 : Int32) (v2 : Int32) (v3 : Int32) : Option (Int32 × HS) := if v3 = ((-1)) then some ((-104), c) else stZ c 6 1536 v3 1 fun c8 => stZ c8 7 1536 v3 0 fun c10 => stA c10 9 1536 v3 v1 fun c12 => stA c12 10 1536 v3 v2 fun c14 => pX5_make_190 FU c14 v1 v2 v3 0
def pX5_make_137 (c : HS) (v1 : Int32) (v2 : Int32) (v3 : Int32) : Option (Int32 × HS) := if v3 = ((-1)) then bd2 (pX5_place c (v1 + v2) 0) fun r19 c18 => pX5_make_151 c18 v1 v2 r19 else pX5_make_151 c v1 v2 v3
def pX5_make_92 (c : HS) (v1 : Int32) (v2 : Int32) (v3 : Int32) : Option (Int32 × HS) := if v3 = ((-1)) then if (c.1 0 4) = 0 then pX5_make_137 c v1 v2 v3 else bd2 (pX5_collect c 1) fun r23 c22 => pfA c22 8 ((c.1 0 8) + r23) fun c24 => pfA c24 10 ((c24.1 0 10) + 1) fun c25 => bd2 (pX5_place c25 (v1 + v2) 1) fun r28 c27 => pX5_make_137 c27 v1 v2 r28 else pX5_make_137 c v1 v2 v3
def pX5_make (c : HS) (a1 : Int32) (a2 : Int32) : Option (Int32 × HS) := if a1 < 0 then some ((-102), c) else if a2 < 0 then some ((-102), c) else if 256 < a1 then some ((-102), c) else if 256 < a2 then some ((-102), c) else if (pX5_in (a1 + a2) 1 256) = 0 then some ((-102), c) else bd2 (pX5_place c (a1 + a2) 1) fun r33 c32 => if r33 = ((-1)) then if (c32.1 0 4) = 0 then pX5_make_92 c32 a1 a2 r33 else bd2 (pX5_collect c32 0) fun r36 c35 => pfA c35 8 ((c32.1 0 8) + r36) fun c37 => pfA c37 9 ((c37.1 0 9) + 1) fun c38 => bd2 (pX5_place c38 (a1 + a2) 1) fun r41 c40 => pX5_make_92 c40 a1 a2 r41 else pX5_make_92 c32 a1 a2 r33
def pX5_isThing (c : HS) (a1 : Int32) : Option (Int32) := if (pX5_in a1 0 ((64 * (c.1 0 0)) - 1)) = 0 then some 0 else ldA c 6 1536 a1 fun x1 => if x1 = 0 then some 0 else some 1
def pX5_put_24 (c : HS) (v1 : Int32) (v2 : Int32) (v3 : Int32) : Option (Int32 × HS) := ldA c 9 1536 v1 fun x1 => if (pX5_in v2 0 (x1 - 1)) = 0 then some ((-12), c) else stA c 5 1536 (v1 + v2) v3 fun c3 => if (c3.1 0 5) = 1 then stZ c3 3 24 ((v1 + v2) / 64) 1 fun c17 => some (1, c17) else ldA c3 7 1536 v1 fun x5 => if x5 = 0 then some (1, c3) else if (c3.1 0 3) = 0 then bd1 (pX5_isLogged c3 v1) fun r8 => if r8 = 0 then if (c3.1 0 2) = 12 then pfA c3 3 1 fun c12 => some (1, c12) else stA c3 13 12 (c3.1 0 2) v1 fun c9 => pfA c9 2 ((c9.1 0 2) + 1) fun c11 => some (1, c11) else some (1, c3) else some (1, c3)
def pX5_put (c : HS) (a1 : Int32) (a2 : Int32) (a3 : Int32) : Option (Int32 × HS) := bd1 (pX5_isThing c a1) fun r22 => if r22 = 0 then some ((-101), c) else if a3 = ((-1)) then pX5_put_24 c a1 a2 a3 else bd1 (pX5_isThing c a3) fun r24 => if r24 = 0 then some ((-101), c) else pX5_put_24 c a1 a2 a3
def pX5_link (c : HS) (a1 : Int32) (a2 : Int32) : Option (Int32) := bd1 (pX5_isThing c a1) fun r2 => if r2 = 0 then some ((-101)) else ldA c 9 1536 a1 fun x3 => if (pX5_in a2 0 (x3 - 1)) = 0 then some ((-12)) else ldA c 5 1536 (a1 + a2) fun x5 => some x5
def pX5_set (c : HS) (a1 : Int32) (a2 : Int32) (a3 : Int32) : Option (Int32 × HS) := bd1 (pX5_isThing c a1) fun r2 => if r2 = 0 then some ((-101), c) else ldA c 9 1536 a1 fun x3 => bd1 (pX5_size c a1) fun r6 => if (pX5_in a2 x3 (r6 - 1)) = 0 then some ((-12), c) else stA c 5 1536 (a1 + a2) a3 fun c7 => some (1, c7)
def pX5_get (c : HS) (a1 : Int32) (a2 : Int32) : Option (Int32 × HS) := bd1 (pX5_isThing c a1) fun r2 => if r2 = 0 then some ((-101), c) else ldA c 9 1536 a1 fun x3 => bd1 (pX5_size c a1) fun r6 => if (pX5_in a2 x3 (r6 - 1)) = 0 then some ((-12), c) else ldA c 5 1536 (a1 + a2) fun x7 => pfA c 6 x7 fun c9 => some (1, c9)
def pX5_seen (c : HS)  : Int32 := (c.1 0 6)
def pX5_about (c : HS) (a1 : Int32) (a2 : Int32) : Option (Int32) := bd1 (pX5_isThing c a1) fun r2 => if r2 = 0 then some ((-101)) else bd1 (pX5_size c a1) fun r4 => bd1 (pX5_classOf r4) fun r6 => if a2 = 0 then ldA c 9 1536 a1 fun x7 => some x7 else if a2 = 1 then ldA c 10 1536 a1 fun x9 => some x9 else if a2 = 2 then ldA c 7 1536 a1 fun x11 => if x11 = 0 then some 0 else some 1 else if a2 = 3 then bd1 (pX5_isRemembered c a1) fun r15 => if r15 = 0 then some 0 else some 1 else if a2 = 4 then if r6 = 5 then bd1 (pX5_blocksOf c a1) fun r18 => some (64 * r18) else some (pX5_cell r6) else if a2 = 5 then some r6 else some ((-102))
def pX5_root_26 (c : HS) (v1 : Int32) (v2 : Int32) : Option (Int32 × HS) := ldA c 11 10 v1 fun x1 => stA c 11 10 v1 v2 fun c3 => some (x1, c3)
def pX5_root (c : HS) (a1 : Int32) (a2 : Int32) : Option (Int32 × HS) := if (pX5_in a1 0 9) = 0 then some ((-101), c) else if a2 = ((-1)) then pX5_root_26 c a1 a2 else bd1 (pX5_isThing c a2) fun r6 => if r6 = 0 then some ((-101), c) else pX5_root_26 c a1 a2
def pX5_rooted (c : HS) (a1 : Int32) : Option (Int32) := if (pX5_in a1 0 9) = 0 then some ((-101)) else ldA c 11 10 a1 fun x1 => some x1
def pX5_push (c : HS) (a1 : Int32) : Option (Int32 × HS) := if (c.1 0 1) = 24 then some ((-104), c) else stA c 12 24 (c.1 0 1) a1 fun c1 => pfA c1 1 ((c1.1 0 1) + 1) fun c3 => some (c3.1 0 1, c3)
def pX5_pop (c : HS)  : Option (Int32 × HS) := if (c.1 0 1) = 0 then some ((-103), c) else pfA c 1 ((c.1 0 1) - 1) fun c1 => ldA c1 12 24 (c1.1 0 1) fun x2 => pfA c1 6 x2 fun c4 => some (c4.1 0 1, c4)
def pX5_top (c : HS) (a1 : Int32) : Option (Int32 × HS) := if (pX5_in a1 0 ((c.1 0 1) - 1)) = 0 then some (0, c) else ldA c 12 24 (((c.1 0 1) - 1) - a1) fun x1 => pfA c 6 x1 fun c3 => some (1, c3)
def pX5_minor (c : HS)  : Option (Int32 × HS) := bd2 (pX5_collect c 0) fun r3 c2 => pfA c2 9 ((c2.1 0 9) + 1) fun c4 => pfA c4 8 ((c4.1 0 8) + r3) fun c5 => some (r3, c5)
def pX5_full (c : HS)  : Option (Int32 × HS) := bd2 (pX5_collect c 1) fun r3 c2 => pfA c2 10 ((c2.1 0 10) + 1) fun c4 => pfA c4 8 ((c4.1 0 8) + r3) fun c5 => some (r3, c5)
def pX5_logged (c : HS) (a1 : Int32) : Option (Int32) := if (pX5_in a1 0 ((c.1 0 2) - 1)) = 0 then some ((-1)) else ldA c 13 12 a1 fun x1 => some x1
def pX5_olds_7 (c : HS) : Nat → Int32 → Int32 → Int32 → Option (Int32)
  | 0, _, _, _ => none
  | n + 1, v1, v2, v3 => if ((64 * v1) + 64) ≤ v3 then some v2 else ldA c 6 1536 v3 fun x1 => if x1 = 0 then pX5_olds_7 c n v1 (v2 + 0) (v3 + 1) else ldA c 7 1536 v3 fun x3 => if x3 = 0 then pX5_olds_7 c n v1 (v2 + 0) (v3 + 1) else pX5_olds_7 c n v1 (v2 + 1) (v3 + 1)
def pX5_olds (c : HS) (a1 : Int32) : Option (Int32) := pX5_olds_7 c FU a1 0 (64 * a1)
def pX5_block (c : HS) (a1 : Int32) (a2 : Int32) : Option (Int32) := if (pX5_in a1 0 ((c.1 0 0) - 1)) = 0 then some ((-101)) else if a2 = 0 then ldA c 1 24 a1 fun x1 => some x1 else if a2 = 1 then ldA c 1 24 a1 fun x3 => if x3 = 1 then ldA c 2 24 a1 fun x10 => some x10 else ldA c 1 24 a1 fun x5 => if x5 = 2 then bd1 (pX5_blocksOf c (64 * a1)) fun r8 => some r8 else some 0 else if a2 = 2 then ldA c 1 24 a1 fun x13 => if x13 = 0 then some 0 else ldA c 1 24 a1 fun x15 => if x15 = 3 then some 0 else bd1 (pX5_used c a1) fun r18 => some r18 else if a2 = 3 then ldA c 1 24 a1 fun x21 => if x21 = 0 then some 0 else ldA c 1 24 a1 fun x23 => if x23 = 3 then some 0 else bd1 (pX5_olds c a1) fun r26 => some r26 else if a2 = 4 then ldA c 3 24 a1 fun x29 => if x29 = 0 then some 0 else some 1 else if a2 = 5 then ldA c 4 24 a1 fun x32 => if x32 = 0 then some 0 else some 1 else some ((-102))
def pX5_room_16 (c : HS) : Nat → Int32 → Int32 → Int32 → Option (Int32)
  | 0, _, _, _ => none
  | n + 1, v1, v2, v3 => if (c.1 0 0) ≤ v3 then some v2 else ldA c 1 24 v3 fun x1 => if x1 = 0 then if v1 = 5 then pX5_room_16 c n v1 (v2 + 1) (v3 + 1) else gdN (pX5_cell v1) (pX5_room_16 c n v1 (v2 + (64 / (pX5_cell v1))) (v3 + 1)) else ldA c 1 24 v3 fun x3 => if x3 = 1 then ldA c 2 24 v3 fun x5 => if x5 = v1 then gdN (pX5_cell v1) (bd1 (pX5_used c v3) fun r9 => pX5_room_16 c n v1 (v2 + ((64 / (pX5_cell v1)) - r9)) (v3 + 1)) else pX5_room_16 c n v1 v2 (v3 + 1) else pX5_room_16 c n v1 v2 (v3 + 1)
def pX5_room (c : HS) (a1 : Int32) : Option (Int32) := if (pX5_in a1 0 5) = 0 then some ((-102)) else pX5_room_16 c FU a1 0 0
def pX5_count_172 (c : HS) : Nat → Int32 → Int32 → Option (Int32)
  | 0, _, _ => none
  | n + 1, v2, v3 => if (64 * (c.1 0 0)) ≤ v3 then some v2 else ldA c 6 1536 v3 fun x1 => if x1 = 0 then pX5_count_172 c n (v2 + 0) (v3 + 1) else bd1 (pX5_isRemembered c v3) fun r4 => if r4 = 0 then pX5_count_172 c n (v2 + 0) (v3 + 1) else pX5_count_172 c n (v2 + 1) (v3 + 1)
def pX5_count_137 (c : HS) : Nat → Int32 → Int32 → Option (Int32)
  | 0, _, _ => none
  | n + 1, v2, v3 => if (c.1 0 0) ≤ v3 then some v2 else ldA c 4 24 v3 fun x8 => if x8 = 0 then pX5_count_137 c n (v2 + 0) (v3 + 1) else pX5_count_137 c n (v2 + 1) (v3 + 1)
def pX5_count_102 (c : HS) : Nat → Int32 → Int32 → Option (Int32)
  | 0, _, _ => none
  | n + 1, v2, v3 => if (c.1 0 0) ≤ v3 then some v2 else ldA c 1 24 v3 fun x12 => if x12 = 0 then pX5_count_102 c n (v2 + 1) (v3 + 1) else pX5_count_102 c n (v2 + 0) (v3 + 1)
def pX5_count_76 (c : HS) : Nat → Int32 → Int32 → Option (Int32)
  | 0, _, _ => none
  | n + 1, v2, v3 => if (c.1 0 0) ≤ v3 then some v2 else bd1 (pX5_olds c v3) fun r17 => pX5_count_76 c n (v2 + r17) (v3 + 1)
def pX5_count (c : HS) (a1 : Int32) : Option (Int32) := if a1 = 0 then some (c.1 0 0) else if a1 = 1 then bd1 (pX5_things c) fun r20 => some r20 else if a1 = 2 then pX5_count_76 c FU 0 0 else if a1 = 3 then pX5_count_102 c FU 0 0 else if a1 = 4 then pX5_count_137 c FU 0 0 else if a1 = 5 then pX5_count_172 c FU 0 0 else if a1 = 6 then if (c.1 0 3) = 0 then some 0 else some 1 else if a1 = 7 then some (c.1 0 7) else if a1 = 8 then some (c.1 0 8) else if a1 = 9 then some (c.1 0 9) else if a1 = 10 then some (c.1 0 10) else if a1 = 11 then some (c.1 0 11) else some ((-102))
def pX5_mix (c : HS) (a1 : Int64) : HS := pfL c ((31 * c.2) + a1) fun c1 => c1
def pX5_digest_237 : Nat → HS → Int32 → Option (Int64 × HS)
  | 0, _, _ => none
  | n + 1, c, v1 => if (c.1 0 2) ≤ v1 then if (c.1 0 3) = 0 then tlA (pX5_mix c 0) fun c1 => some (c1.2, c1) else tlA (pX5_mix c 1) fun c2 => some (c2.2, c2) else ldA c 13 12 v1 fun x4 => tlA (pX5_mix c x4.toInt64) fun c6 => pX5_digest_237 n c6 (v1 + 1)
def pX5_digest_208 (k174 : HS → Int32 → Option (Int64 × HS)) (c : HS) (v1 : Int32) (s1 : Int64) : Option (Int64 × HS) := tlA (pX5_mix c s1) fun c8 => ldA c8 4 24 v1 fun x9 => if x9 = 0 then tlA (pX5_mix c8 0) fun c11 => k174 c11 (v1 + 1) else tlA (pX5_mix c8 1) fun c12 => k174 c12 (v1 + 1)
def pX5_digest_174 : Nat → HS → Int32 → Option (Int64 × HS)
  | 0, _, _ => none
  | n + 1, c, v1 => if (c.1 0 0) ≤ v1 then pX5_digest_237 FU c 0 else ldA c 1 24 v1 fun x14 => tlA (pX5_mix c x14.toInt64) fun c16 => ldA c16 3 24 v1 fun x17 => if x17 = 0 then pX5_digest_208 (pX5_digest_174 n) c16 v1 0 else pX5_digest_208 (pX5_digest_174 n) c16 v1 1
def pX5_digest_147 : Nat → HS → Int32 → Option (Int64 × HS)
  | 0, _, _ => none
  | n + 1, c, v1 => if (c.1 0 1) ≤ v1 then pX5_digest_174 FU c 0 else ldA c 12 24 v1 fun x21 => tlA (pX5_mix c x21.toInt64) fun c23 => pX5_digest_147 n c23 (v1 + 1)
def pX5_digest_122 : Nat → HS → Int32 → Option (Int64 × HS)
  | 0, _, _ => none
  | n + 1, c, v1 => if 10 ≤ v1 then pX5_digest_147 FU c 0 else ldA c 11 10 v1 fun x25 => tlA (pX5_mix c x25.toInt64) fun c27 => pX5_digest_122 n c27 (v1 + 1)
def pX5_digest_86 (k18 : HS → Int32 → Option (Int64 × HS)) : Nat → HS → Int32 → Int32 → Option (Int64 × HS)
  | 0, _, _, _ => none
  | n + 1, c, v1, v2 => bd1 (pX5_size c v1) fun r30 => if r30 ≤ v2 then k18 c (v1 + 1) else ldA c 5 1536 (v1 + v2) fun x31 => tlA (pX5_mix c x31.toInt64) fun c33 => pX5_digest_86 k18 n c33 v1 (v2 + 1)
def pX5_digest_18 : Nat → HS → Int32 → Option (Int64 × HS)
  | 0, _, _ => none
  | n + 1, c, v1 => if (64 * (c.1 0 0)) ≤ v1 then pX5_digest_122 FU c 0 else ldA c 6 1536 v1 fun x35 => if x35 = 0 then pX5_digest_18 n c (v1 + 1) else tlA (pX5_mix c v1.toInt64) fun c37 => ldA c37 9 1536 v1 fun x38 => tlA (pX5_mix c37 x38.toInt64) fun c40 => ldA c40 10 1536 v1 fun x41 => tlA (pX5_mix c40 x41.toInt64) fun c43 => ldA c43 7 1536 v1 fun x44 => if x44 = 0 then tlA (pX5_mix c43 0) fun c46 => pX5_digest_86 (pX5_digest_18 n) FU c46 v1 0 else tlA (pX5_mix c43 1) fun c47 => pX5_digest_86 (pX5_digest_18 n) FU c47 v1 0
def pX5_digest (c : HS)  : Option (Int64 × HS) := pfL c 43 fun c51 => tlA (pX5_mix c51 ((c51.1 0 0).toInt64)) fun c52 => pX5_digest_18 FU c52 0
