def pX3_thingsIn_5 (c : HS) : Nat → Int32 → Int32 → Int32 → Int32 → Option (Int32)
  | 0, _, _, _, _ => none
  | n + 1, v1, v2, v3, v4 => if 32 ≤ v4 then some v3 else ldA c 7 768 ((v1 * 32) + v4) fun x1 => if x1 < v2 then pX3_thingsIn_5 c n v1 v2 v3 (v4 + 1) else pX3_thingsIn_5 c n v1 v2 (v3 + 1) (v4 + 1)
def pX3_thingsIn (c : HS) (a1 : Int32) (a2 : Int32) : Option (Int32) := pX3_thingsIn_5 c FU a1 a2 0 0
def pX3_things_4 (c : HS) : Nat → Int32 → Int32 → Int32 → Option (Int32)
  | 0, _, _, _ => none
  | n + 1, v1, v2, v3 => if (c.1 0 0) ≤ v3 then some v2 else bd1 (pX3_thingsIn c v3 v1) fun r2 => pX3_things_4 c n v1 (v2 + r2) (v3 + 1)
def pX3_things (c : HS) (a1 : Int32) : Option (Int32) := pX3_things_4 c FU a1 0 0
def pX3_turn (c : HS) (a1 : Int32) (a2 : Int32) (a3 : Int32) : Option (HS) := stA c 1 24 a1 a2 fun c1 => stA c1 2 24 a1 a3 fun c3 => stA c3 3 24 a1 0 fun c5 => some c5
def pX3_reset_36 : Nat → HS → Int32 → Option (HS)
  | 0, _, _ => none
  | n + 1, c, v2 => if 768 ≤ v2 then some c else stA c 7 768 v2 0 fun c1 => pX3_reset_36 n c1 (v2 + 1)
def pX3_reset_15 : Nat → HS → Int32 → Option (HS)
  | 0, _, _ => none
  | n + 1, c, v2 => if 24 ≤ v2 then pX3_reset_36 FU c 0 else bd1 (pX3_turn c v2 0 0) fun c5 => pX3_reset_15 n c5 (v2 + 1)
def pX3_reset (c : HS) (a1 : Int32) : Option (HS) := pfA c 0 a1 fun c7 => pfA c7 1 (a1 * 64) fun c8 => pX3_reset_15 FU c8 0
def pX2_forget_12 : Nat → HS → Int32 → Option (HS)
  | 0, _, _ => none
  | n + 1, c, v1 => if 24 ≤ v1 then some c else stA c 9 24 v1 0 fun c1 => pX2_forget_12 n c1 (v1 + 1)
def pX2_forget (c : HS)  : Option (HS) := pfA c 3 0 fun c4 => pfA c4 4 0 fun c5 => pX2_forget_12 FU c5 0
def pX1_reset_2 : Nat → HS → Int32 → Option (HS)
  | 0, _, _ => none
  | n + 1, c, v1 => if 10 ≤ v1 then pfA c 5 0 fun c1 => some c1 else stA c 10 10 v1 ((-1)) fun c2 => pX1_reset_2 n c2 (v1 + 1)
def pX1_reset (c : HS)  : Option (HS) := pX1_reset_2 FU c 0
def pX4_open (c : HS) (a1 : Int32) : Option (Int32 × HS) := if a1 < 1 then some ((-102), c) else if a1 ≤ 24 then bd1 (pX3_things c 1) fun r2 => bd1 (pX3_reset c a1) fun c4 => bd1 (pX2_forget c4) fun c6 => bd1 (pX1_reset c6) fun c8 => pfA c8 12 0 fun c9 => some (r2, c9) else some ((-102), c)
def pX4_way_12 (c : HS) (v1 : Int32) : Option (Int32 × HS) := bd1 (pX3_things c 1) fun r2 => if r2 ≤ 0 then pfA c 2 v1 fun c3 => some (c.1 0 2, c3) else some ((-103), c)
def pX4_way (c : HS) (a1 : Int32) : Option (Int32 × HS) := if a1 = 0 then pX4_way_12 c a1 else if a1 = 1 then pX4_way_12 c a1 else some ((-102), c)
def pX4_flag (a0 : Int32) : Int32 := if a0 = 0 then 0 else 1
def pX4_auto (c : HS) (a1 : Int32) : Option (Int32 × HS) := gdZ a1 (pfA c 11 a1 fun c1 => some (pX4_flag (c.1 0 11), c1))
def pX4_isShape (a0 : Int32) (a1 : Int32) : Int32 := if a0 < 0 then 0 else if a1 < 0 then 0 else if 256 < a0 then 0 else if a1 ≤ 256 then if (a0 + a1) < 1 then 0 else if 256 < (a0 + a1) then 0 else 1 else 0
def pX4_cellWords (a0 : Int32) : Int32 := (2 <<< (a0 &&& 31))
def pX4_classFor_2 : Nat → Int32 → Int32 → Option (Int32)
  | 0, _, _ => none
  | n + 1, v0, v1 => if 5 ≤ v1 then some 5 else if (pX4_cellWords v1) < v0 then pX4_classFor_2 n v0 (v1 + 1) else some v1
def pX4_classFor (a0 : Int32) : Option (Int32) := pX4_classFor_2 FU a0 0
def pX4_blocksFor (a0 : Int32) : Int32 := (((a0 + 64) - 1) / 64)
def pX3_freeRow_58 (k5 : Int32 → Int32 → Int32 → Int32 → Option (Int32)) (c : HS) (v1 : Int32) (v2 : Int32) (v4 : Int32) (s0 : Int32) : Option (Int32) := if s0 = v1 then some (((v4 - v1) + 1) * 64) else k5 v1 v2 s0 (v4 + 1)
def pX3_freeRow_44 (k5 : Int32 → Int32 → Int32 → Int32 → Option (Int32)) (c : HS) (v1 : Int32) (v2 : Int32) (v3 : Int32) (v4 : Int32) (s0 : Int32) : Option (Int32) := if s0 = 0 then pX3_freeRow_58 k5 c v1 v2 v4 0 else pX3_freeRow_58 k5 c v1 v2 v4 (v3 + 1)
def pX3_freeRow_5 (c : HS) : Nat → Int32 → Int32 → Int32 → Int32 → Option (Int32)
  | 0, _, _, _, _ => none
  | n + 1, v1, v2, v3, v4 => if (c.1 0 0) ≤ v4 then some ((-1)) else ldA c 1 24 v4 fun x3 => if x3 = 0 then if v2 = 0 then pX3_freeRow_44 (pX3_freeRow_5 c n) c v1 v2 v3 v4 1 else ldA c 3 24 v4 fun x5 => if x5 = 1 then pX3_freeRow_44 (pX3_freeRow_5 c n) c v1 v2 v3 v4 0 else pX3_freeRow_44 (pX3_freeRow_5 c n) c v1 v2 v3 v4 1 else pX3_freeRow_44 (pX3_freeRow_5 c n) c v1 v2 v3 v4 0
def pX3_freeRow (c : HS) (a1 : Int32) (a2 : Int32) : Option (Int32) := pX3_freeRow_5 c FU a1 a2 0 0
def pX4_cellsOf (a0 : Int32) : Int32 := (32 >>> (a0 &&& 31))
def pX3_isThing (c : HS) (a1 : Int32) : Option (Int32) := if a1 < 0 then some 0 else if (c.1 0 1) ≤ a1 then some 0 else if (a1 - a1 / 2 * 2) = 0 then ldA c 7 768 (a1 / 2) fun x1 => if x1 = 0 then some 0 else some 1 else some 0
def pX3_freeCell_35 (k2 : Int32 → Int32 → Option (Int32)) (c : HS) : Nat → Int32 → Int32 → Int32 → Option (Int32)
  | 0, _, _, _ => none
  | n + 1, v1, v2, v3 => if (pX4_cellsOf v1) ≤ v3 then k2 v1 (v2 + 1) else bd1 (pX3_isThing c ((v2 * 64) + (v3 * (pX4_cellWords v1)))) fun r2 => if r2 = 0 then some ((v2 * 64) + (v3 * (pX4_cellWords v1))) else pX3_freeCell_35 k2 c n v1 v2 (v3 + 1)
def pX3_freeCell_2 (c : HS) : Nat → Int32 → Int32 → Option (Int32)
  | 0, _, _ => none
  | n + 1, v1, v2 => if (c.1 0 0) ≤ v2 then some ((-1)) else ldA c 1 24 v2 fun x5 => if x5 = 1 then ldA c 2 24 v2 fun x7 => if x7 = v1 then pX3_freeCell_35 (pX3_freeCell_2 c n) c FU v1 v2 0 else pX3_freeCell_2 c n v1 (v2 + 1) else pX3_freeCell_2 c n v1 (v2 + 1)
def pX3_freeCell (c : HS) (a1 : Int32) : Option (Int32) := pX3_freeCell_2 c FU a1 0
def pX3_placeFor (c : HS) (a1 : Int32) (a2 : Int32) : Option (Int32) := bd1 (pX4_classFor a1) fun r2 => if r2 = 5 then bd1 (pX3_freeRow c (pX4_blocksFor a1) a2) fun r9 => some r9 else bd1 (pX3_freeCell c r2) fun r4 => if r4 = ((-1)) then bd1 (pX3_freeRow c 1 a2) fun r6 => some r6 else some r4
def pX0_find (c : HS) (a1 : Int32) : Option (HS) := bd1 (pX3_isThing c a1) fun r2 => if r2 = 0 then some c else ldA c 7 768 (a1 / 2) fun x3 => if x3 = 1 then if (c.1 0 6) < 768 then stA c 7 768 (a1 / 2) 2 fun c5 => stA c5 12 768 (c5.1 0 6) a1 fun c7 => pfA c7 6 ((c7.1 0 6) + 1) fun c9 => some c9 else some c else some c
def pX3_firstBlock_2 (c : HS) : Nat → Int32 → Option (Int32)
  | 0, _ => none
  | n + 1, v2 => if v2 ≤ 0 then some 0 else ldA c 1 24 v2 fun x1 => if x1 = 3 then pX3_firstBlock_2 c n (v2 + (-1)) else some v2
def pX3_firstBlock (c : HS) (a1 : Int32) : Option (Int32) := pX3_firstBlock_2 c FU a1
def pX3_thingAt_52 (c : HS) (s0 : Int32) : Option (Int32) := bd1 (pX3_isThing c s0) fun r2 => if r2 = 0 then some ((-1)) else some s0
def pX3_thingAt (c : HS) (a1 : Int32) : Option (Int32) := if a1 < 0 then some ((-1)) else if a1 < (c.1 0 1) then ldA c 1 24 (a1 / 64) fun x4 => if x4 = 1 then ldA c 2 24 (a1 / 64) fun x8 => pX3_thingAt_52 c (a1 &&& (-(pX4_cellWords x8))) else bd1 (pX3_firstBlock c (a1 / 64)) fun r7 => pX3_thingAt_52 c (r7 * 64) else some ((-1))
def pX0_findHeld_29 : Nat → HS → Int32 → Option (HS)
  | 0, _, _ => none
  | n + 1, c, v1 => if (c.1 0 5) ≤ v1 then some c else ldA c 11 24 v1 fun x1 => bd1 (pX3_thingAt c x1) fun r4 => bd1 (pX0_find c r4) fun c6 => pX0_findHeld_29 n c6 (v1 + 1)
def pX0_findHeld_2 : Nat → HS → Int32 → Option (HS)
  | 0, _, _ => none
  | n + 1, c, v1 => if 10 ≤ v1 then pX0_findHeld_29 FU c 0 else ldA c 10 10 v1 fun x8 => bd1 (pX0_find c x8) fun c11 => pX0_findHeld_2 n c11 (v1 + 1)
def pX0_findHeld (c : HS)  : Option (HS) := pX0_findHeld_2 FU c 0
def pX3_ageOf (c : HS) (a1 : Int32) : Option (Int32) := bd1 (pX3_isThing c a1) fun r2 => if r2 = 0 then some 0 else ldA c 7 768 (a1 / 2) fun x3 => some x3
def pX3_referencesOf (c : HS) (a1 : Int32) : Option (Int32) := bd1 (pX3_isThing c a1) fun r2 => if r2 = 0 then some 0 else ldA c 5 768 (a1 / 2) fun x3 => some x3
def pX2_touchesDirty_2 (c : HS) : Nat → Int32 → Int32 → Int32 → Option (Int32)
  | 0, _, _, _ => none
  | n + 1, v1, v2, v3 => if v2 ≤ v3 then some 0 else ldA c 9 24 ((v1 + v3) / 64) fun x1 => if x1 = 1 then some 1 else pX2_touchesDirty_2 c n v1 v2 (v3 + 1)
def pX2_touchesDirty (c : HS) (a1 : Int32) (a2 : Int32) : Option (Int32) := pX2_touchesDirty_2 c FU a1 a2 0
def pX2_inLog_2 (c : HS) : Nat → Int32 → Int32 → Option (Int32)
  | 0, _, _ => none
  | n + 1, v1, v2 => if (c.1 0 3) ≤ v2 then some 0 else ldA c 8 12 v2 fun x1 => if x1 = v1 then some 1 else pX2_inLog_2 c n v1 (v2 + 1)
def pX2_inLog (c : HS) (a1 : Int32) : Option (Int32) := pX2_inLog_2 c FU a1 0
def pX2_counts (c : HS) (a2 : Int32) : Option (Int32) := bd1 (pX3_ageOf c a2) fun r2 => if r2 = 3 then if (c.1 0 2) = 1 then bd1 (pX3_referencesOf c a2) fun r8 => bd1 (pX2_touchesDirty c a2 r8) fun r10 => gdZ r10 (some r10) else if (c.1 0 4) = 0 then bd1 (pX2_inLog c a2) fun r4 => if r4 = 0 then some 0 else some 1 else some 1 else some 0
def pX0_lookAt_11 : Nat → HS → Int32 → Int32 → Int32 → Option (HS)
  | 0, _, _, _, _ => none
  | n + 1, c, v1, v2, v3 => if v2 ≤ v3 then pfA c 10 ((c.1 0 10) + v2) fun c1 => some c1 else ldA c 4 1536 (v1 + v3) fun x2 => bd1 (pX0_find c x2) fun c5 => pX0_lookAt_11 n c5 v1 v2 (v3 + 1)
def pX0_lookAt (c : HS) (a1 : Int32) : Option (HS) := bd1 (pX3_referencesOf c a1) fun r8 => pX0_lookAt_11 FU c a1 r8 0
def pX0_findRemembered_2 : Nat → HS → Int32 → Option (HS)
  | 0, _, _ => none
  | n + 1, c, v1 => if (c.1 0 1) ≤ v1 then some c else bd1 (pX2_counts c v1) fun r2 => if r2 = 0 then pX0_findRemembered_2 n c (v1 + 2) else bd1 (pX0_lookAt c v1) fun c4 => pX0_findRemembered_2 n c4 (v1 + 2)
def pX0_findRemembered (c : HS)  : Option (HS) := pX0_findRemembered_2 FU c 0
def pX0_findReferred_2 : Nat → HS → Int32 → Option (HS)
  | 0, _, _ => none
  | n + 1, c, v1 => if (c.1 0 6) ≤ v1 then some c else if 768 ≤ v1 then some c else ldA c 12 768 v1 fun x1 => bd1 (pX0_lookAt c x1) fun c4 => pX0_findReferred_2 n c4 (v1 + 1)
def pX0_findReferred (c : HS)  : Option (HS) := pX0_findReferred_2 FU c 0
def pX3_sweep_4 : Nat → HS → Int32 → Int32 → Option (Int32 × HS)
  | 0, _, _, _ => none
  | n + 1, c, v1, v2 => if 768 ≤ v2 then some (v1, c) else ldA c 7 768 v2 fun x1 => if x1 = 2 then stA c 7 768 v2 3 fun c8 => pX3_sweep_4 n c8 v1 (v2 + 1) else ldA c 7 768 v2 fun x3 => if x3 = 1 then stA c 7 768 v2 0 fun c5 => pX3_sweep_4 n c5 (v1 + 1) (v2 + 1) else pX3_sweep_4 n c v1 (v2 + 1)
def pX3_sweep (c : HS)  : Option (Int32 × HS) := pX3_sweep_4 FU c 0 0
def pX3_freeEmptyBlocks_67 (k2 : HS → Int32 → Option (HS)) (c : HS) (v1 : Int32) (s0 : Int32) : Option (HS) := if s0 = 0 then k2 c (v1 + 1) else bd1 (pX3_turn c v1 0 0) fun c2 => k2 c2 (v1 + 1)
def pX3_freeEmptyBlocks_29 (k2 : HS → Int32 → Option (HS)) (c : HS) (v1 : Int32) (s0 : Int32) : Option (HS) := if s0 = 0 then bd1 (pX3_thingsIn c v1 1) fun r5 => if r5 = 0 then pX3_freeEmptyBlocks_67 k2 c v1 1 else pX3_freeEmptyBlocks_67 k2 c v1 0 else ldA c 1 24 (v1 - 1) fun x7 => if x7 = 0 then pX3_freeEmptyBlocks_67 k2 c v1 1 else pX3_freeEmptyBlocks_67 k2 c v1 0
def pX3_freeEmptyBlocks_2 : Nat → HS → Int32 → Option (HS)
  | 0, _, _ => none
  | n + 1, c, v1 => if (c.1 0 0) ≤ v1 then some c else if v1 ≤ 0 then pX3_freeEmptyBlocks_29 (pX3_freeEmptyBlocks_2 n) c v1 0 else ldA c 1 24 v1 fun x11 => if x11 = 3 then pX3_freeEmptyBlocks_29 (pX3_freeEmptyBlocks_2 n) c v1 1 else pX3_freeEmptyBlocks_29 (pX3_freeEmptyBlocks_2 n) c v1 0
def pX3_freeEmptyBlocks (c : HS)  : Option (HS) := pX3_freeEmptyBlocks_2 FU c 0
def pX3_barBy_25 : Nat → HS → Int32 → Int32 → Option (HS)
  | 0, _, _, _ => none
  | n + 1, c, v2, v3 => if v2 ≤ v3 then some c else if 24 ≤ v3 then some c else ldA c 11 24 v3 fun x1 => if x1 < 0 then pX3_barBy_25 n c v2 (v3 + 1) else if x1 < (c.1 0 1) then ldA c 1 24 (x1 / 64) fun x3 => if x3 = 0 then stA c 3 24 (x1 / 64) 1 fun c5 => pX3_barBy_25 n c5 v2 (v3 + 1) else pX3_barBy_25 n c v2 (v3 + 1) else pX3_barBy_25 n c v2 (v3 + 1)
def pX3_barBy_2 : Nat → HS → Int32 → Int32 → Option (HS)
  | 0, _, _, _ => none
  | n + 1, c, v2, v3 => if (c.1 0 0) ≤ v3 then pX3_barBy_25 FU c v2 0 else stA c 3 24 v3 0 fun c12 => pX3_barBy_2 n c12 v2 (v3 + 1)
def pX3_barBy (c : HS) (a2 : Int32) : Option (HS) := pX3_barBy_2 FU c a2 0
def pX0_end (c : HS)  : Option (Int32 × HS) := bd2 (pX3_sweep c) fun r3 c2 => pfA c2 7 ((c2.1 0 7) + r3) fun c4 => bd1 (pX2_forget c4) fun c6 => bd1 (pX3_freeEmptyBlocks c6) fun c8 => bd1 (pX3_barBy c8 (c8.1 0 5)) fun c10 => some (r3, c10)
def pX0_collectYoung (c : HS)  : Option (Int32 × HS) := pfA c 8 ((c.1 0 8) + 1) fun c1 => pfA c1 6 0 fun c2 => bd1 (pX0_findHeld c2) fun c4 => bd1 (pX0_findRemembered c4) fun c6 => bd1 (pX0_findReferred c6) fun c8 => bd2 (pX0_end c8) fun r11 c10 => some (r11, c10)
def pX3_makeAllYoung_2 : Nat → HS → Int32 → Option (HS)
  | 0, _, _ => none
  | n + 1, c, v1 => if 768 ≤ v1 then some c else ldA c 7 768 v1 fun x1 => if x1 = 3 then stA c 7 768 v1 1 fun c3 => pX3_makeAllYoung_2 n c3 (v1 + 1) else pX3_makeAllYoung_2 n c (v1 + 1)
def pX3_makeAllYoung (c : HS)  : Option (HS) := pX3_makeAllYoung_2 FU c 0
def pX0_collectAll (c : HS)  : Option (Int32 × HS) := pfA c 9 ((c.1 0 9) + 1) fun c1 => pfA c1 6 0 fun c2 => bd1 (pX3_makeAllYoung c2) fun c4 => bd1 (pX0_findHeld c4) fun c6 => bd1 (pX0_findReferred c6) fun c8 => bd2 (pX0_end c8) fun r11 c10 => some (r11, c10)
def pX4_placeFor_70 (c : HS) (v1 : Int32) (v2 : Int32) : Option (Int32 × HS) := if v2 = ((-1)) then bd1 (pX3_placeFor c v1 0) fun r2 => some (r2, c) else some (v2, c)
def pX4_placeFor_40 (c : HS) (v1 : Int32) (v2 : Int32) : Option (Int32 × HS) := if v2 = ((-1)) then if (c.1 0 11) = 0 then pX4_placeFor_70 c v1 v2 else bd2 (pX0_collectAll c) fun r6 c5 => bd1 (pX3_placeFor c5 v1 1) fun r8 => pX4_placeFor_70 c5 v1 r8 else pX4_placeFor_70 c v1 v2
def pX4_placeFor (c : HS) (a1 : Int32) : Option (Int32 × HS) := bd1 (pX3_placeFor c a1 1) fun r12 => if r12 = ((-1)) then if (c.1 0 11) = 0 then pX4_placeFor_40 c a1 r12 else bd2 (pX0_collectYoung c) fun r15 c14 => bd1 (pX3_placeFor c14 a1 1) fun r17 => pX4_placeFor_40 c14 a1 r17 else pX4_placeFor_40 c a1 r12
def pX3_take_35 : Nat → HS → Int32 → Int32 → Int32 → Option (HS)
  | 0, _, _, _, _ => none
  | n + 1, c, v1, v4, v5 => if v4 ≤ v5 then some c else bd1 (pX3_turn c (v1 + v5) 3 0) fun c2 => pX3_take_35 n c2 v1 v4 (v5 + 1)
def pX3_take (c : HS) (a1 : Int32) (a2 : Int32) : Option (HS) := bd1 (pX4_classFor a2) fun r5 => if r5 = 5 then bd1 (pX3_turn c a1 2 (pX4_blocksFor a2)) fun c7 => pX3_take_35 FU c7 a1 (pX4_blocksFor a2) 1 else bd1 (pX3_turn c a1 1 r5) fun c9 => some c9
def pX3_lay_55 : Nat → HS → Int32 → Int32 → Int32 → Int32 → Option (HS)
  | 0, _, _, _, _, _ => none
  | n + 1, c, v1, v2, v3, v5 => if (v2 + v3) ≤ v5 then some c else if v2 ≤ v5 then stA c 4 1536 (v1 + v5) 0 fun c1 => pX3_lay_55 n c1 v1 v2 v3 (v5 + 1) else stA c 4 1536 (v1 + v5) ((-1)) fun c3 => pX3_lay_55 n c3 v1 v2 v3 (v5 + 1)
def pX3_lay_25 (c : HS) (v1 : Int32) (v2 : Int32) (v3 : Int32) : Option (HS) := stA c 5 768 (v1 / 2) v2 fun c7 => stA c7 6 768 (v1 / 2) v3 fun c9 => stA c9 7 768 (v1 / 2) 1 fun c11 => pX3_lay_55 FU c11 v1 v2 v3 0
def pX3_lay (c : HS) (a1 : Int32) (a2 : Int32) (a3 : Int32) : Option (HS) := ldA c 1 24 (a1 / 64) fun x13 => if x13 = 0 then bd1 (pX3_take c (a1 / 64) (a2 + a3)) fun c16 => pX3_lay_25 c16 a1 a2 a3 else pX3_lay_25 c a1 a2 a3
def pX4_make (c : HS) (a1 : Int32) (a2 : Int32) : Option (Int32 × HS) := if (pX4_isShape a1 a2) = 0 then some ((-102), c) else bd2 (pX4_placeFor c (a1 + a2)) fun r3 c2 => if r3 = ((-1)) then some ((-104), c2) else bd1 (pX3_lay c2 r3 a1 a2) fun c5 => pfA c5 13 ((c5.1 0 13) + 1) fun c6 => some (r3, c6)
def pX4_isThingOrNone (c : HS) (a1 : Int32) : Option (Int32) := if a1 = ((-1)) then some 1 else bd1 (pX3_isThing c a1) fun r2 => if r2 = 0 then some 0 else some 1
def pX3_hasReference (c : HS) (a1 : Int32) (a2 : Int32) : Option (Int32) := if a2 < 0 then some 0 else bd1 (pX3_referencesOf c a1) fun r2 => if r2 ≤ a2 then some 0 else some 1
def pX2_enter (c : HS) (a1 : Int32) : Option (HS) := if (c.1 0 3) < 12 then stA c 8 12 (c.1 0 3) a1 fun c1 => pfA c1 3 ((c1.1 0 3) + 1) fun c3 => some c3 else pfA c 4 1 fun c4 => some c4
def pX2_noteWrite (c : HS) (a1 : Int32) (a2 : Int32) (a3 : Int32) : Option (HS) := if (c.1 0 2) = 1 then stA c 9 24 ((a1 + a2) / 64) 1 fun c8 => some c8 else if a3 = 0 then some c else if (c.1 0 4) = 0 then bd1 (pX2_inLog c a1) fun r2 => if r2 = 0 then bd1 (pX2_enter c a1) fun c4 => some c4 else some c else some c
def pX4_put (c : HS) (a1 : Int32) (a2 : Int32) (a3 : Int32) : Option (Int32 × HS) := bd1 (pX3_isThing c a1) fun r2 => if r2 = 0 then some ((-101), c) else bd1 (pX4_isThingOrNone c a3) fun r4 => if r4 = 0 then some ((-101), c) else bd1 (pX3_hasReference c a1 a2) fun r6 => if r6 = 0 then some ((-12), c) else stA c 4 1536 (a1 + a2) a3 fun c7 => bd1 (pX3_ageOf c7 a1) fun r10 => if r10 = 3 then bd1 (pX2_noteWrite c7 a1 a2 1) fun c14 => some (1, c14) else bd1 (pX2_noteWrite c7 a1 a2 0) fun c12 => some (1, c12)
def pX4_link (c : HS) (a1 : Int32) (a2 : Int32) : Option (Int32) := bd1 (pX3_isThing c a1) fun r2 => if r2 = 0 then some ((-101)) else bd1 (pX3_hasReference c a1 a2) fun r4 => if r4 = 0 then some ((-12)) else ldA c 4 1536 (a1 + a2) fun x5 => some x5
def pX3_numbersOf (c : HS) (a1 : Int32) : Option (Int32) := bd1 (pX3_isThing c a1) fun r2 => if r2 = 0 then some 0 else ldA c 6 768 (a1 / 2) fun x3 => some x3
def pX3_sizeOf (c : HS) (a1 : Int32) : Option (Int32) := bd1 (pX3_referencesOf c a1) fun r2 => bd1 (pX3_numbersOf c a1) fun r4 => some (r2 + r4)
def pX3_hasNumber (c : HS) (a1 : Int32) (a2 : Int32) : Option (Int32) := bd1 (pX3_referencesOf c a1) fun r2 => if a2 < r2 then some 0 else bd1 (pX3_sizeOf c a1) fun r4 => if r4 ≤ a2 then some 0 else some 1
def pX4_set (c : HS) (a1 : Int32) (a2 : Int32) (a3 : Int32) : Option (Int32 × HS) := bd1 (pX3_isThing c a1) fun r2 => if r2 = 0 then some ((-101), c) else bd1 (pX3_hasNumber c a1 a2) fun r4 => if r4 = 0 then some ((-12), c) else stA c 4 1536 (a1 + a2) a3 fun c5 => some (1, c5)
def pX4_get (c : HS) (a1 : Int32) (a2 : Int32) : Option (Int32 × HS) := bd1 (pX3_isThing c a1) fun r2 => if r2 = 0 then some ((-101), c) else bd1 (pX3_hasNumber c a1 a2) fun r4 => if r4 = 0 then some ((-12), c) else ldA c 4 1536 (a1 + a2) fun x5 => pfA c 12 x5 fun c7 => some (1, c7)
def pX4_seen (c : HS)  : Int32 := (c.1 0 12)
def pX4_wordsFor (a0 : Int32) : Option (Int32) := bd1 (pX4_classFor a0) fun r2 => if r2 = 5 then some ((pX4_blocksFor a0) * 64) else some (pX4_cellWords r2)
def pX4_about (c : HS) (a1 : Int32) (a2 : Int32) : Option (Int32) := bd1 (pX3_isThing c a1) fun r2 => if r2 = 0 then some ((-101)) else if a2 = 0 then bd1 (pX3_referencesOf c a1) fun r4 => some r4 else if a2 = 1 then bd1 (pX3_numbersOf c a1) fun r6 => some r6 else if a2 = 2 then bd1 (pX3_ageOf c a1) fun r8 => if r8 = 3 then some (pX4_flag 1) else some (pX4_flag 0) else if a2 = 3 then bd1 (pX2_counts c a1) fun r11 => some (pX4_flag r11) else if a2 = 4 then bd1 (pX3_sizeOf c a1) fun r13 => bd1 (pX4_wordsFor r13) fun r15 => some r15 else if a2 = 5 then bd1 (pX3_sizeOf c a1) fun r17 => bd1 (pX4_classFor r17) fun r19 => some r19 else some ((-102))
def pX4_points (c : HS) (a1 : Int32) : Option (Int32) := bd1 (pX3_thingAt c a1) fun r2 => some r2
def pX4_isRoot (a0 : Int32) : Int32 := if a0 < 0 then 0 else if 10 ≤ a0 then 0 else 1
def pX4_root (c : HS) (a1 : Int32) (a2 : Int32) : Option (Int32 × HS) := if (pX4_isRoot a1) = 0 then some ((-101), c) else bd1 (pX4_isThingOrNone c a2) fun r2 => if r2 = 0 then some ((-101), c) else ldA c 10 10 a1 fun x3 => stA c 10 10 a1 a2 fun c5 => some (x3, c5)
def pX4_rooted (c : HS) (a1 : Int32) : Option (Int32) := if (pX4_isRoot a1) = 0 then some ((-101)) else ldA c 10 10 a1 fun x1 => some x1
def pX4_push (c : HS) (a1 : Int32) : Option (Int32 × HS) := if (c.1 0 5) < 24 then stA c 11 24 (c.1 0 5) a1 fun c1 => pfA c1 5 ((c1.1 0 5) + 1) fun c3 => some (c3.1 0 5, c3) else some ((-104), c)
def pX4_pop (c : HS)  : Option (Int32 × HS) := if 0 < (c.1 0 5) then pfA c 5 ((c.1 0 5) - 1) fun c1 => ldA c1 11 24 (c1.1 0 5) fun x2 => pfA c1 12 x2 fun c4 => some (c4.1 0 5, c4) else some ((-103), c)
def pX4_top (c : HS) (a1 : Int32) : Option (Int32 × HS) := if a1 < 0 then some (0, c) else if a1 < (c.1 0 5) then ldA c 11 24 (((c.1 0 5) - 1) - a1) fun x1 => pfA c 12 x1 fun c3 => some (1, c3) else some (0, c)
def pX4_minor (c : HS)  : Option (Int32 × HS) := bd2 (pX0_collectYoung c) fun r3 c2 => some (r3, c2)
def pX4_full (c : HS)  : Option (Int32 × HS) := bd2 (pX0_collectAll c) fun r3 c2 => some (r3, c2)
def pX4_logged (c : HS) (a1 : Int32) : Option (Int32) := if a1 < 0 then some ((-1)) else if (c.1 0 3) ≤ a1 then some ((-1)) else ldA c 8 12 a1 fun x1 => some x1
def pX4_block (c : HS) (a1 : Int32) (a2 : Int32) : Option (Int32) := if a1 < 0 then some ((-101)) else if a1 < (c.1 0 0) then if a2 = 0 then ldA c 1 24 a1 fun x1 => some x1 else if a2 = 1 then ldA c 2 24 a1 fun x3 => some x3 else if a2 = 2 then bd1 (pX3_thingsIn c a1 1) fun r6 => some r6 else if a2 = 3 then bd1 (pX3_thingsIn c a1 3) fun r8 => some r8 else if a2 = 4 then ldA c 9 24 a1 fun x9 => some x9 else if a2 = 5 then ldA c 3 24 a1 fun x11 => some x11 else some ((-102)) else some ((-101))
def pX3_freeBlocks_4 (c : HS) : Nat → Int32 → Int32 → Option (Int32)
  | 0, _, _ => none
  | n + 1, v1, v2 => if (c.1 0 0) ≤ v2 then some v1 else ldA c 1 24 v2 fun x1 => if x1 = 0 then pX3_freeBlocks_4 c n (v1 + 1) (v2 + 1) else pX3_freeBlocks_4 c n v1 (v2 + 1)
def pX3_freeBlocks (c : HS)  : Option (Int32) := pX3_freeBlocks_4 c FU 0 0
def pX3_roomFor_22 (c : HS) : Nat → Int32 → Int32 → Int32 → Option (Int32)
  | 0, _, _, _ => none
  | n + 1, v1, v2, v3 => if (c.1 0 0) ≤ v3 then some v2 else ldA c 1 24 v3 fun x1 => if x1 = 1 then ldA c 2 24 v3 fun x3 => if x3 = v1 then bd1 (pX3_thingsIn c v3 1) fun r6 => pX3_roomFor_22 c n v1 (v2 + ((pX4_cellsOf v1) - r6)) (v3 + 1) else pX3_roomFor_22 c n v1 v2 (v3 + 1) else pX3_roomFor_22 c n v1 v2 (v3 + 1)
def pX3_roomFor (c : HS) (a1 : Int32) : Option (Int32) := if a1 = 5 then bd1 (pX3_freeBlocks c) fun r13 => some r13 else bd1 (pX3_freeBlocks c) fun r11 => pX3_roomFor_22 c FU a1 (r11 * (pX4_cellsOf a1)) 0
def pX4_room (c : HS) (a1 : Int32) : Option (Int32) := if a1 < 0 then some ((-102)) else if a1 ≤ 5 then bd1 (pX3_roomFor c a1) fun r2 => some r2 else some ((-102))
def pX4_thingsInLog_4 (c : HS) : Nat → Int32 → Int32 → Option (Int32)
  | 0, _, _ => none
  | n + 1, v1, v2 => if (c.1 0 1) ≤ v2 then some v1 else bd1 (pX2_counts c v2) fun r2 => if r2 = 0 then pX4_thingsInLog_4 c n v1 (v2 + 2) else pX4_thingsInLog_4 c n (v1 + 1) (v2 + 2)
def pX4_thingsInLog (c : HS)  : Option (Int32) := pX4_thingsInLog_4 c FU 0 0
def pX3_barredBlocks_4 (c : HS) : Nat → Int32 → Int32 → Option (Int32)
  | 0, _, _ => none
  | n + 1, v1, v2 => if (c.1 0 0) ≤ v2 then some v1 else ldA c 3 24 v2 fun x1 => pX3_barredBlocks_4 c n (v1 + x1) (v2 + 1)
def pX3_barredBlocks (c : HS)  : Option (Int32) := pX3_barredBlocks_4 c FU 0 0
def pX4_count (c : HS) (a1 : Int32) : Option (Int32) := if a1 = 0 then some (c.1 0 0) else if a1 = 1 then bd1 (pX3_things c 1) fun r2 => some r2 else if a1 = 2 then bd1 (pX3_things c 3) fun r4 => some r4 else if a1 = 3 then bd1 (pX3_freeBlocks c) fun r6 => some r6 else if a1 = 4 then bd1 (pX3_barredBlocks c) fun r8 => some r8 else if a1 = 5 then bd1 (pX4_thingsInLog c) fun r10 => some r10 else if a1 = 6 then some (pX4_flag (c.1 0 4)) else if a1 = 7 then some (c.1 0 13) else if a1 = 8 then some (c.1 0 7) else if a1 = 9 then some (c.1 0 8) else if a1 = 10 then some (c.1 0 9) else if a1 = 11 then some (c.1 0 10) else some ((-102))
def pX4_mix (a0 : Int64) (a2 : Int64) : Int64 := ((31 * a0) + a2)
def pX4_mixThing_81 (c : HS) : Nat → Int32 → Int64 → Int32 → Int32 → Option (Int64)
  | 0, _, _, _, _ => none
  | n + 1, v3, v4, v6, v7 => if v6 ≤ v7 then some v4 else ldA c 4 1536 (v3 + v7) fun x1 => pX4_mixThing_81 c n v3 (pX4_mix v4 x1.toInt64) v6 (v7 + 1)
def pX4_mixThing_59 (c : HS) (v3 : Int32) (s0 : Int64) (s1 : Int32) : Option (Int64) := bd1 (pX3_sizeOf c v3) fun r5 => pX4_mixThing_81 c FU v3 (pX4_mix s0 ((pX4_flag s1).toInt64)) r5 0
def pX4_mixThing (c : HS) (a1 : Int64) (a3 : Int32) : Option (Int64) := bd1 (pX3_referencesOf c a3) fun r7 => bd1 (pX3_numbersOf c a3) fun r9 => bd1 (pX3_ageOf c a3) fun r11 => if r11 = 3 then pX4_mixThing_59 c a3 (pX4_mix (pX4_mix (pX4_mix a1 a3.toInt64) r7.toInt64) r9.toInt64) 1 else pX4_mixThing_59 c a3 (pX4_mix (pX4_mix (pX4_mix a1 a3.toInt64) r7.toInt64) r9.toInt64) 0
def pX4_mixRow_14_6 (c : HS) : Nat → Int32 → Int64 → Int32 → Option (Int64)
  | 0, _, _, _ => none
  | n + 1, v3, v4, v6 => if v3 ≤ v6 then some v4 else if 10 ≤ v6 then some v4 else ldA c 10 10 v6 fun x1 => pX4_mixRow_14_6 c n v3 (pX4_mix v4 x1.toInt64) (v6 + 1)
def pX4_mixRow_14 (c : HS) (a0 : Int64) (a3 : Int32) : Option (Int64) := pX4_mixRow_14_6 c FU a3 a0 0
def pX4_mixRow_15_6 (c : HS) : Nat → Int32 → Int64 → Int32 → Option (Int64)
  | 0, _, _, _ => none
  | n + 1, v3, v4, v6 => if v3 ≤ v6 then some v4 else if 24 ≤ v6 then some v4 else ldA c 11 24 v6 fun x1 => pX4_mixRow_15_6 c n v3 (pX4_mix v4 x1.toInt64) (v6 + 1)
def pX4_mixRow_15 (c : HS) (a0 : Int64) (a3 : Int32) : Option (Int64) := pX4_mixRow_15_6 c FU a3 a0 0
def pX4_mixRow_12_6 (c : HS) : Nat → Int32 → Int64 → Int32 → Option (Int64)
  | 0, _, _, _ => none
  | n + 1, v3, v4, v6 => if v3 ≤ v6 then some v4 else if 12 ≤ v6 then some v4 else ldA c 8 12 v6 fun x1 => pX4_mixRow_12_6 c n v3 (pX4_mix v4 x1.toInt64) (v6 + 1)
def pX4_mixRow_12 (c : HS) (a0 : Int64) (a3 : Int32) : Option (Int64) := pX4_mixRow_12_6 c FU a3 a0 0
def pX4_digest_87 (c : HS) : Nat → Int64 → Int32 → Option (Int64)
  | 0, _, _ => none
  | n + 1, v1, v3 => if (c.1 0 0) ≤ v3 then bd1 (pX4_mixRow_12 c v1 (c.1 0 3)) fun r2 => some (pX4_mix r2 ((pX4_flag (c.1 0 4)).toInt64)) else ldA c 1 24 v3 fun x3 => ldA c 9 24 v3 fun x5 => ldA c 3 24 v3 fun x7 => pX4_digest_87 c n (pX4_mix (pX4_mix (pX4_mix v1 x3.toInt64) x5.toInt64) x7.toInt64) (v3 + 1)
def pX4_digest_17 (c : HS) : Nat → Int64 → Int32 → Option (Int64)
  | 0, _, _ => none
  | n + 1, v1, v3 => if (c.1 0 1) ≤ v3 then bd1 (pX4_mixRow_14 c v1 10) fun r11 => bd1 (pX4_mixRow_15 c r11 (c.1 0 5)) fun r13 => pX4_digest_87 c FU r13 0 else bd1 (pX3_isThing c v3) fun r15 => if r15 = 0 then pX4_digest_17 c n v1 (v3 + 2) else bd1 (pX4_mixThing c v1 v3) fun r17 => pX4_digest_17 c n r17 (v3 + 2)
def pX4_digest (c : HS)  : Option (Int64) := pX4_digest_17 c FU (pX4_mix 43 ((c.1 0 0).toInt64)) 0
