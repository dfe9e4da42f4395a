section LAWL
variable {p : Program} {l : Launch} {e : Env} {s : State} {m : MethodId} {below : List Frame} {meth : Method} {cd : Code} {dC : Nat → ClassId} {dI : Nat → Nat → Nat} {b L i : Nat} {xs : Nat → Int32} {ad ad' : Nat → Nat} {cA cA' : Nat → ClassId} {iv : Int32} {c t : HS} {H : Heap} {locs : List Loc} {ls : Array Slot}
set_option maxHeartbeats 4000000 in
set_option maxRecDepth 100000 in
theorem law_loop (C0 : lw_At p s m meth cd b L xs) (hL : L ≤ 2048) (F : lw_F dC dI ad ad' cA cA' s) : ∀ (n i : Nat) (iv : Int32) (c t : HS) (H : Heap) (locs : List Loc) (ls : Array Slot), i ≤ L → L + 1 ≤ i + n → iv = nI i → lw_G dC dI ad ad' cA cA' s c t H locs → RR c t → lv_has ls 4 [(0, .ref b), (1, .ref (ad 0)), (2, .ref (ad' 0)), (3, .int iv)] → W p l e room_1 s m #[Value.ref b] below meth cd H locs 32 15704 (lw_Z below #[Value.ref b] s) (F0 m 18 ls []) := by
  intro n
  induction n with
  | zero =>
    intro i iv c t H locs ls h1 h2
    exact absurd h2 (by omega)
  | succ n ih =>
    intro i iv c t H locs ls hi0 hin ei G hRR hl
    have hx := C0.1
    have hb := C0.2.1
    have hr := C0.2.2.1
    have hX := C0.2.2.2.2.2.2.1
    have hbl := C0.2.2.2.2.2.2.2.1
    have hlocks := C0.2.2.2.2.2.2.2.2.1
    have hbA : ¬ (fun q : Nat => s.heap.size ≤ q) b := Nat.not_le.mpr hbl
    refine lv_iload_n hx hb dL_law_18 rfl (lv_at hl 3 rfl) ?_
    refine lv_aload_n hx hb dL_law_19 rfl (lv_at hl 0 rfl) ?_
    refine va_slen hx hb hX hbl hbA G.2.2 dL_law_20 ?_
    refine lv_iconst (v := 4) hx hb dL_law_21 (by decide) ?_
    refine lv_isub hx hb dL_law_22 ?_
    refine lv_icmp_gt (tgt := 742) hx hb dL_law_23 (by decide) (fun c_1 => ?_) (fun c_1 => ?_)
    · refine lv_iconst (v := 1) hx hb dL_law_742 (by decide) ?_
      refine va_forget (fun q hq => G.2.2.2.2 q hq) ?_
      exact lw_ret hx hb hr hlocks dL_law_743
    · have hi : i + 4 ≤ L := lpc (by omega) hL (by rw [ei] at c_1; exact c_1)
      have h0 : vp_in iv L := by rw [ei]; exact vp_in_nI (by omega) (by omega)
      refine lv_aload_n hx hb dL_law_26 rfl (lv_at hl 0 rfl) ?_
      refine lv_iload_n hx hb dL_law_27 rfl (lv_at hl 3 rfl) ?_
      refine va_sld hx hb hX hbl hbA G.2.2 h0 dL_law_28 ?_
      refine lv_bipush (v := 31) hx hb dL_law_29 (by decide) ?_
      refine lv_iand hx hb dL_law_31 ?_
      refine lv_topi (fun sel esel => ?_)
      have kk : ∀ (c t : HS) (H : Heap) (locs : List Loc), lw_G dC dI ad ad' cA cA' s c t H locs → RR c t → W p l e room_1 s m #[Value.ref b] below meth cd H locs 32 15704 (lw_Z below #[Value.ref b] s) (F0 m 736 ls []) := by
        intro c t H locs G hRR
        refine lv_iinc (v := iv + 4) (lv' := [(3, .int (iv + 4)), (0, .ref b), (1, .ref (ad 0)), (2, .ref (ad' 0))]) hx hb dL_law_736 hl (k := 3) rfl rfl (by decide) rfl (fun ls hl => ?_)
        refine lv_goto (tgt := 18) hx hb dL_law_739 (by decide) ?_
        exact ih (i + 4) (iv + 4) c t H locs ls (by omega) (by omega) (by rw [ei]; exact nI_add i 4) G hRR (lv_sub hl [1, 2, 3, 0] rfl)
      by_cases e0 : sel = 0
      · refine lv_tableIn (off := 108) (tgt := 140) hx hb dL_law_32 (by rw [e0]; decide) (by rw [e0]; decide) (by rw [e0]; rfl) (by decide) ?_
        exact lc_opn C0 hL F hi ei G hRR hl kk
      by_cases e1 : sel = 1
      · refine lv_tableIn (off := 131) (tgt := 163) hx hb dL_law_32 (by rw [e1]; decide) (by rw [e1]; decide) (by rw [e1]; rfl) (by decide) ?_
        exact lc_way C0 hL F hi ei G hRR hl kk
      by_cases e2 : sel = 2
      · refine lv_tableIn (off := 154) (tgt := 186) hx hb dL_law_32 (by rw [e2]; decide) (by rw [e2]; decide) (by rw [e2]; rfl) (by decide) ?_
        exact lc_auto C0 hL F hi ei G hRR hl kk
      by_cases e3 : sel = 3
      · refine lv_tableIn (off := 193) (tgt := 225) hx hb dL_law_32 (by rw [e3]; decide) (by rw [e3]; decide) (by rw [e3]; rfl) (by decide) ?_
        exact lc_make C0 hL F hi ei G hRR hl kk
      by_cases e4 : sel = 4
      · refine lv_tableIn (off := 226) (tgt := 258) hx hb dL_law_32 (by rw [e4]; decide) (by rw [e4]; decide) (by rw [e4]; rfl) (by decide) ?_
        exact lc_put C0 hL F hi ei G hRR hl kk
      by_cases e5 : sel = 5
      · refine lv_tableIn (off := 269) (tgt := 301) hx hb dL_law_32 (by rw [e5]; decide) (by rw [e5]; decide) (by rw [e5]; rfl) (by decide) ?_
        exact lc_link C0 hL F hi ei G hRR hl kk
      by_cases e6 : sel = 6
      · refine lv_tableIn (off := 302) (tgt := 334) hx hb dL_law_32 (by rw [e6]; decide) (by rw [e6]; decide) (by rw [e6]; rfl) (by decide) ?_
        exact lc_set C0 hL F hi ei G hRR hl kk
      by_cases e7 : sel = 7
      · refine lv_tableIn (off := 345) (tgt := 377) hx hb dL_law_32 (by rw [e7]; decide) (by rw [e7]; decide) (by rw [e7]; rfl) (by decide) ?_
        exact lc_get C0 hL F hi ei G hRR hl kk
      by_cases e8 : sel = 8
      · refine lv_tableIn (off := 378) (tgt := 410) hx hb dL_law_32 (by rw [e8]; decide) (by rw [e8]; decide) (by rw [e8]; rfl) (by decide) ?_
        exact lc_seen C0 hL F hi ei G hRR hl kk
      by_cases e9 : sel = 9
      · refine lv_tableIn (off := 391) (tgt := 423) hx hb dL_law_32 (by rw [e9]; decide) (by rw [e9]; decide) (by rw [e9]; rfl) (by decide) ?_
        exact lc_about C0 hL F hi ei G hRR hl kk
      by_cases e10 : sel = 10
      · refine lv_tableIn (off := 424) (tgt := 456) hx hb dL_law_32 (by rw [e10]; decide) (by rw [e10]; decide) (by rw [e10]; rfl) (by decide) ?_
        exact lc_points C0 hL F hi ei G hRR hl kk
      by_cases e11 : sel = 11
      · refine lv_tableIn (off := 447) (tgt := 479) hx hb dL_law_32 (by rw [e11]; decide) (by rw [e11]; decide) (by rw [e11]; rfl) (by decide) ?_
        exact lc_root C0 hL F hi ei G hRR hl kk
      by_cases e12 : sel = 12
      · refine lv_tableIn (off := 480) (tgt := 512) hx hb dL_law_32 (by rw [e12]; decide) (by rw [e12]; decide) (by rw [e12]; rfl) (by decide) ?_
        exact lc_rooted C0 hL F hi ei G hRR hl kk
      by_cases e13 : sel = 13
      · refine lv_tableIn (off := 503) (tgt := 535) hx hb dL_law_32 (by rw [e13]; decide) (by rw [e13]; decide) (by rw [e13]; rfl) (by decide) ?_
        exact lc_push C0 hL F hi ei G hRR hl kk
      by_cases e14 : sel = 14
      · refine lv_tableIn (off := 526) (tgt := 558) hx hb dL_law_32 (by rw [e14]; decide) (by rw [e14]; decide) (by rw [e14]; rfl) (by decide) ?_
        exact lc_pop C0 hL F hi ei G hRR hl kk
      by_cases e15 : sel = 15
      · refine lv_tableIn (off := 539) (tgt := 571) hx hb dL_law_32 (by rw [e15]; decide) (by rw [e15]; decide) (by rw [e15]; rfl) (by decide) ?_
        exact lc_top C0 hL F hi ei G hRR hl kk
      by_cases e16 : sel = 16
      · refine lv_tableIn (off := 562) (tgt := 594) hx hb dL_law_32 (by rw [e16]; decide) (by rw [e16]; decide) (by rw [e16]; rfl) (by decide) ?_
        exact lc_minor C0 hL F hi ei G hRR hl kk
      by_cases e17 : sel = 17
      · refine lv_tableIn (off := 575) (tgt := 607) hx hb dL_law_32 (by rw [e17]; decide) (by rw [e17]; decide) (by rw [e17]; rfl) (by decide) ?_
        exact lc_full C0 hL F hi ei G hRR hl kk
      by_cases e18 : sel = 18
      · refine lv_tableIn (off := 588) (tgt := 620) hx hb dL_law_32 (by rw [e18]; decide) (by rw [e18]; decide) (by rw [e18]; rfl) (by decide) ?_
        exact lc_logged C0 hL F hi ei G hRR hl kk
      by_cases e19 : sel = 19
      · refine lv_tableIn (off := 611) (tgt := 643) hx hb dL_law_32 (by rw [e19]; decide) (by rw [e19]; decide) (by rw [e19]; rfl) (by decide) ?_
        exact lc_block C0 hL F hi ei G hRR hl kk
      by_cases e20 : sel = 20
      · refine lv_tableIn (off := 644) (tgt := 676) hx hb dL_law_32 (by rw [e20]; decide) (by rw [e20]; decide) (by rw [e20]; rfl) (by decide) ?_
        exact lc_room C0 hL F hi ei G hRR hl kk
      by_cases e21 : sel = 21
      · refine lv_tableIn (off := 667) (tgt := 699) hx hb dL_law_32 (by rw [e21]; decide) (by rw [e21]; decide) (by rw [e21]; rfl) (by decide) ?_
        exact lc_count C0 hL F hi ei G hRR hl kk
      by_cases e22 : sel = 22
      · refine lv_tableIn (off := 690) (tgt := 722) hx hb dL_law_32 (by rw [e22]; decide) (by rw [e22]; decide) (by rw [e22]; rfl) (by decide) ?_
        exact lc_digest C0 hL F hi ei G hRR hl kk
      refine lv_tableOut (tgt := 736) hx hb dL_law_32 (tsw_out 22 (by decide) (fun k hk => ?_)) (by decide) ?_
      · rcases (show k = 0 ∨ k = 1 ∨ k = 2 ∨ k = 3 ∨ k = 4 ∨ k = 5 ∨ k = 6 ∨ k = 7 ∨ k = 8 ∨ k = 9 ∨ k = 10 ∨ k = 11 ∨ k = 12 ∨ k = 13 ∨ k = 14 ∨ k = 15 ∨ k = 16 ∨ k = 17 ∨ k = 18 ∨ k = 19 ∨ k = 20 ∨ k = 21 ∨ k = 22 by omega) with rfl | rfl | rfl | rfl | rfl | rfl | rfl | rfl | rfl | rfl | rfl | rfl | rfl | rfl | rfl | rfl | rfl | rfl | rfl | rfl | rfl | rfl | rfl <;> assumption
      exact kk c t H locs G hRR
end LAWL
