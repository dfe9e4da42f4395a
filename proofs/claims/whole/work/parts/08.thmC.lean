set_option maxHeartbeats 4000000 in
set_option maxRecDepth 100000 in
theorem kX3_thingsIn (l : Launch) (dC : Nat → ClassId) (dI : Nat → Nat → Nat) (ad : Nat → Nat) (cA : Nat → ClassId) (hap : apart 17 ad) (sz : Nat) (c : HS) (a1 : Int32) (a2 : Int32) (r0 : Int32) (hM : pX3_thingsIn c a1 a2 = some r0) : Met l yX3_thingsIn wsX3_thingsIn ({ frames := 0, cells := 0, slots := 0, locals := 0 }) (gP (dC, dI) (wC ad cA) (kC (dC, dI) cA) c sz [.ref (ad 1), .int a1, .int a2]) (gQi (dC, dI) (wC ad cA) (fA 17 ad sz) r0 c) 0 0 (fA 17 ad sz) := by
  refine Met.ofW (cc := cX3_thingsIn) (maxL := 5) (ret := (some .int)) (by decide) rfl ?_
  intro p e s m args below meth cd s₁ B hml hv
  obtain ⟨rfl, rfl, hP, hK⟩ := hv
  have hx := B.exec
  have hb := B.bytes
  have hr := B.returns
  have hts := atoms_spec (ws := wsX3_thingsIn) B.pre
  have hown : s.vm.findClass RX3 = some m.cls := findClass_of_methodNamed B.named
  have hlocks := B.notSynchronized
  have hK1 : va_K (dC, dI) vwCl (tC cA) s := hK.1
  have hD : ∀ c, va_D (fA 17 ad s.heap.size) (wC ad cA c) := fun c => dC_ok hap cA c _
  have hS : va_S (fA 17 ad s.heap.size) s.heap s.heap [] := va_S.rf
  have i3 : ∀ w ∈ u_ws RX3 TX3 9, w ∈ wsX3_thingsIn := by decide +kernel
  have f30 := hts (.fieldLink RX3 30 "StickyHeap$Space" "age" "[I") (by decide +kernel)
  have L5 : ∀ (n : Nat) (v1 : Int32) (v2 : Int32) (v3 : Int32) (v4 : Int32) (H : Heap) (locs : List Loc) (ls : Array Slot), pX3_thingsIn_5 c n v1 v2 v3 v4 = some r0 → va_P (dC, dI) vwCl (wC ad cA c) H → va_S (fA 17 ad s.heap.size) s.heap H locs → lv_has ls 5 [(0, .ref (ad 1)), (1, .int v1), (2, .int v2), (3, .int v3), (4, .int v4)] → W p l e (headSpec wsX3_thingsIn ({ frames := 0, cells := 0, slots := 0, locals := 0 })).room s m ([.ref (ad 1), .int a1, .int a2]).toArray below meth cd H locs 0 0 (MQ below (gQi (dC, dI) (wC ad cA) (fA 17 ad s.heap.size) r0 c) ([.ref (ad 1), .int a1, .int a2]).toArray s 0 0 (fA 17 ad s.heap.size)) (F0 m 5 ls []) := by
    intro n
    induction n with
    | zero =>
      intro v1 v2 v3 v4 H locs ls hM
      exact absurd (Eq.symm (hM : none = some r0)) sm_ne
    | succ n5 ih5 =>
      intro v1 v2 v3 v4 H locs ls hM hP hS hl
      unfold pX3_thingsIn_5 at hM
      refine lv_iload hx hb dX3_thingsIn_5 (lv_at hl 4 rfl) ?_
      refine lv_bipush (v := 32) hx hb dX3_thingsIn_7 (by decide) ?_
      refine lv_icmp_ge (tgt := 37) hx hb dX3_thingsIn_9 (by decide) (fun e4 => ?_) (fun e4 => ?_)
      · have hM := it_p e4 hM
        refine lv_iload_n hx hb dX3_thingsIn_37 rfl (lv_at hl 3 rfl) ?_
        exact W.iret hx hb hr (fun t ht hW => ⟨⟨_, _, rfl, ⟨pr1 hM, rfl⟩, hPt ht hP⟩, hS.F ht⟩) hS.2.2 dX3_thingsIn_38
      · have hM := it_n e4 hM
        refine lv_aload_n hx hb dX3_thingsIn_12 rfl (lv_at hl 0 rfl) ?_
        refine gget (v := .ref (ad 11)) hx hb hts i3 hown hK1 hP 1 rfl rfl 8 (by decide) f30 rfl rfl dX3_thingsIn_13 ?_
        refine lv_iload_n hx hb dX3_thingsIn_16 rfl (lv_at hl 1 rfl) ?_
        refine lv_bipush (v := 32) hx hb dX3_thingsIn_17 (by decide) ?_
        refine lv_imul hx hb dX3_thingsIn_19 ?_
        refine lv_iload hx hb dX3_thingsIn_20 (lv_at hl 4 rfl) ?_
        refine lv_iadd hx hb dX3_thingsIn_22 ?_
        obtain ⟨h2, x1, hx1, hM⟩ := ldA_some sm_ne hM
        refine gald hx hb hK1 hP 11 6 rfl rfl h2 hx1 dX3_thingsIn_23 ?_
        refine lv_iload_n hx hb dX3_thingsIn_24 rfl (lv_at hl 2 rfl) ?_
        refine lv_icmp_lt (tgt := 31) hx hb dX3_thingsIn_25 (by decide) (fun e3 => ?_) (fun e3 => ?_)
        · have hM := it_p e3 hM
          refine lv_iinc (v := v4 + 1) (lv' := [(4, .int (v4 + 1)), (0, .ref (ad 1)), (1, .int v1), (2, .int v2), (3, .int v3)]) hx hb dX3_thingsIn_31 hl (k := 4) rfl rfl (by decide) rfl (fun ls hl => ?_)
          refine lv_goto (tgt := 5) hx hb dX3_thingsIn_34 (by decide) ?_
          exact ih5 _ _ _ _ _ _ _ hM hP hS (lv_sub hl [1, 2, 3, 4, 0] rfl)
        · have hM := it_n e3 hM
          refine lv_iinc (v := v3 + 1) (lv' := [(3, .int (v3 + 1)), (0, .ref (ad 1)), (1, .int v1), (2, .int v2), (4, .int v4)]) hx hb dX3_thingsIn_28 hl (k := 3) rfl rfl (by decide) rfl (fun ls hl => ?_)
          refine lv_iinc (v := v4 + 1) (lv' := [(4, .int (v4 + 1)), (3, .int (v3 + 1)), (0, .ref (ad 1)), (1, .int v1), (2, .int v2)]) hx hb dX3_thingsIn_31 hl (k := 4) rfl rfl (by decide) rfl (fun ls hl => ?_)
          refine lv_goto (tgt := 5) hx hb dX3_thingsIn_34 (by decide) ?_
          exact ih5 _ _ _ _ _ _ _ hM hP hS (lv_sub hl [2, 3, 4, 1, 0] rfl)
  have hl := lv_entry [.ref (ad 1), .int a1, .int a2] (n := 5) (Nat.le_of_ble_eq_true rfl)
  rw [lg_entry_eq]
  generalize (lg_sl [.ref (ad 1), .int a1, .int a2] ++ List.replicate (5 - (lg_sl [.ref (ad 1), .int a1, .int a2]).length) Slot.unset).toArray = ls at hl ⊢
  have hl : lv_has ls 5 [(0, .ref (ad 1)), (1, .int a1), (2, .int a2)] := hl
  have hP : va_P (dC, dI) vwCl (wC ad cA c) s.heap := hP
  unfold pX3_thingsIn at hM
  refine lv_iconst (v := 0) hx hb dX3_thingsIn_0 (by decide) ?_
  refine lv_istore_n (lv' := [(3, .int 0), (0, .ref (ad 1)), (1, .int a1), (2, .int a2)]) hx hb dX3_thingsIn_1 rfl hl (by decide) rfl (fun ls hl => ?_)
  refine lv_iconst (v := 0) hx hb dX3_thingsIn_2 (by decide) ?_
  refine lv_istore (lv' := [(4, .int 0), (3, .int 0), (0, .ref (ad 1)), (1, .int a1), (2, .int a2)]) hx hb dX3_thingsIn_3 hl (by decide) rfl (fun ls hl => ?_)
  exact L5 _ _ _ _ _ _ _ _ hM hP hS (lv_sub hl [2, 3, 4, 1, 0] rfl)
set_option maxHeartbeats 4000000 in
set_option maxRecDepth 100000 in
theorem kX3_things (l : Launch) (dC : Nat → ClassId) (dI : Nat → Nat → Nat) (ad : Nat → Nat) (cA : Nat → ClassId) (hap : apart 17 ad) (sz : Nat) (c : HS) (a1 : Int32) (r0 : Int32) (hM : pX3_things c a1 = some r0) : Met l yX3_things wsX3_things ({ frames := 1, cells := 0, slots := 0, locals := 24 }) (gP (dC, dI) (wC ad cA) (kC (dC, dI) cA) c sz [.ref (ad 1), .int a1]) (gQi (dC, dI) (wC ad cA) (fA 17 ad sz) r0 c) 0 0 (fA 17 ad sz) := by
  refine Met.ofW (cc := cX3_things) (maxL := 4) (ret := (some .int)) (by decide) rfl ?_
  intro p e s m args below meth cd s₁ B hml hv
  obtain ⟨rfl, rfl, hP, hK⟩ := hv
  have hx := B.exec
  have hb := B.bytes
  have hr := B.returns
  have hts := atoms_spec (ws := wsX3_things) B.pre
  have hown : s.vm.findClass RX3 = some m.cls := findClass_of_methodNamed B.named
  have hlocks := B.notSynchronized
  have hK1 : va_K (dC, dI) vwCl (tC cA) s := hK.1
  have hD : ∀ c, va_D (fA 17 ad s.heap.size) (wC ad cA c) := fun c => dC_ok hap cA c _
  have hS : va_S (fA 17 ad s.heap.size) s.heap s.heap [] := va_S.rf
  have i3 : ∀ w ∈ u_ws RX3 TX3 9, w ∈ wsX3_things := by decide +kernel
  have f33 := hts (.fieldLink RX3 33 "StickyHeap$Space" "blocks" "I") (by decide +kernel)
  have L4 : ∀ (n : Nat) (v1 : Int32) (v2 : Int32) (v3 : Int32) (H : Heap) (locs : List Loc) (ls : Array Slot), pX3_things_4 c n v1 v2 v3 = some r0 → va_P (dC, dI) vwCl (wC ad cA c) H → va_S (fA 17 ad s.heap.size) s.heap H locs → lv_has ls 4 [(0, .ref (ad 1)), (1, .int v1), (2, .int v2), (3, .int v3)] → W p l e (headSpec wsX3_things ({ frames := 1, cells := 0, slots := 0, locals := 24 })).room s m ([.ref (ad 1), .int a1]).toArray below meth cd H locs 0 0 (MQ below (gQi (dC, dI) (wC ad cA) (fA 17 ad s.heap.size) r0 c) ([.ref (ad 1), .int a1]).toArray s 0 0 (fA 17 ad s.heap.size)) (F0 m 4 ls []) := by
    intro n
    induction n with
    | zero =>
      intro v1 v2 v3 H locs ls hM
      exact absurd (Eq.symm (hM : none = some r0)) sm_ne
    | succ n4 ih4 =>
      intro v1 v2 v3 H locs ls hM hP hS hl
      unfold pX3_things_4 at hM
      refine lv_iload_n hx hb dX3_things_4 rfl (lv_at hl 3 rfl) ?_
      refine lv_aload_n hx hb dX3_things_5 rfl (lv_at hl 0 rfl) ?_
      refine gget (v := .int (c.1 0 0)) hx hb hts i3 hown hK1 hP 1 rfl rfl 0 (by decide) f33 rfl rfl dX3_things_6 ?_
      refine lv_icmp_ge (tgt := 27) hx hb dX3_things_9 (by decide) (fun e3 => ?_) (fun e3 => ?_)
      · have hM := it_p e3 hM
        refine lv_iload_n hx hb dX3_things_27 rfl (lv_at hl 2 rfl) ?_
        exact W.iret hx hb hr (fun t ht hW => ⟨⟨_, _, rfl, ⟨pr1 hM, rfl⟩, hPt ht hP⟩, hS.F ht⟩) hS.2.2 dX3_things_28
      · have hM := it_n e3 hM
        refine lv_iload_n hx hb dX3_things_12 rfl (lv_at hl 2 rfl) ?_
        refine lv_aload_n hx hb dX3_things_13 rfl (lv_at hl 0 rfl) ?_
        refine lv_iload_n hx hb dX3_things_14 rfl (lv_at hl 3 rfl) ?_
        refine lv_iload_n hx hb dX3_things_15 rfl (lv_at hl 1 rfl) ?_
        obtain ⟨r2, h1, hM⟩ := bd1_some sm_ne hM
        refine gCi (gV (As := [.int v3, .int v1]) (rest := [.int v2]) ⟨hx, hb, hml, hown, hts⟩ (kX3_thingsIn l dC dI ad cA hap _ c v3 v1 _ h1) (cwV 2 hts gX3_things_X3_thingsIn rfl rfl rfl (by decide +kernel) ⟨Nat.le_of_ble_eq_true rfl, Nat.le_of_ble_eq_true rfl⟩) (kC_st _ _) hK hP (va_recv hK1 hP (ci := 3) (q0 := 1) rfl rfl) rfl hl.1 rfl (Nat.le_of_ble_eq_true rfl) dX3_things_16 ⟨Nat.zero_le _, Nat.zero_le _⟩) hS (fun H locs hP hS => ?_)
        refine lv_iadd hx hb dX3_things_19 ?_
        refine lv_istore_n (lv' := [(2, .int (v2 + r2)), (0, .ref (ad 1)), (1, .int v1), (3, .int v3)]) hx hb dX3_things_20 rfl hl (by decide) rfl (fun ls hl => ?_)
        refine lv_iinc (v := v3 + 1) (lv' := [(3, .int (v3 + 1)), (2, .int (v2 + r2)), (0, .ref (ad 1)), (1, .int v1)]) hx hb dX3_things_21 hl (k := 3) rfl rfl (by decide) rfl (fun ls hl => ?_)
        refine lv_goto (tgt := 4) hx hb dX3_things_24 (by decide) ?_
        exact ih4 _ _ _ _ _ _ hM hP hS (lv_sub hl [2, 3, 1, 0] rfl)
  have hl := lv_entry [.ref (ad 1), .int a1] (n := 4) (Nat.le_of_ble_eq_true rfl)
  rw [lg_entry_eq]
  generalize (lg_sl [.ref (ad 1), .int a1] ++ List.replicate (4 - (lg_sl [.ref (ad 1), .int a1]).length) Slot.unset).toArray = ls at hl ⊢
  have hl : lv_has ls 4 [(0, .ref (ad 1)), (1, .int a1)] := hl
  have hP : va_P (dC, dI) vwCl (wC ad cA c) s.heap := hP
  unfold pX3_things at hM
  refine lv_iconst (v := 0) hx hb dX3_things_0 (by decide) ?_
  refine lv_istore_n (lv' := [(2, .int 0), (0, .ref (ad 1)), (1, .int a1)]) hx hb dX3_things_1 rfl hl (by decide) rfl (fun ls hl => ?_)
  refine lv_iconst (v := 0) hx hb dX3_things_2 (by decide) ?_
  refine lv_istore_n (lv' := [(3, .int 0), (2, .int 0), (0, .ref (ad 1)), (1, .int a1)]) hx hb dX3_things_3 rfl hl (by decide) rfl (fun ls hl => ?_)
  exact L4 _ _ _ _ _ _ _ hM hP hS (lv_sub hl [2, 3, 1, 0] rfl)
set_option maxHeartbeats 4000000 in
set_option maxRecDepth 100000 in
theorem kX3_turn (l : Launch) (dC : Nat → ClassId) (dI : Nat → Nat → Nat) (ad : Nat → Nat) (cA : Nat → ClassId) (hap : apart 17 ad) (sz : Nat) (c : HS) (a1 : Int32) (a2 : Int32) (a3 : Int32) (c9 : HS) (hM : pX3_turn c a1 a2 a3 = some c9) : Met l yX3_turn wsX3_turn ({ frames := 0, cells := 0, slots := 0, locals := 0 }) (gP (dC, dI) (wC ad cA) (kC (dC, dI) cA) c sz [.ref (ad 1), .int a1, .int a2, .int a3]) (gQv (dC, dI) (wC ad cA) (fA 17 ad sz) c9) 0 0 (fA 17 ad sz) := by
  refine Met.ofW (cc := cX3_turn) (maxL := 4) (ret := none) (by decide) rfl ?_
  intro p e s m args below meth cd s₁ B hml hv
  obtain ⟨rfl, rfl, hP, hK⟩ := hv
  have hx := B.exec
  have hb := B.bytes
  have hr := B.returns
  have hts := atoms_spec (ws := wsX3_turn) B.pre
  have hown : s.vm.findClass RX3 = some m.cls := findClass_of_methodNamed B.named
  have hlocks := B.notSynchronized
  have hK1 : va_K (dC, dI) vwCl (tC cA) s := hK.1
  have hD : ∀ c, va_D (fA 17 ad s.heap.size) (wC ad cA c) := fun c => dC_ok hap cA c _
  have hS : va_S (fA 17 ad s.heap.size) s.heap s.heap [] := va_S.rf
  have i3 : ∀ w ∈ u_ws RX3 TX3 9, w ∈ wsX3_turn := by decide +kernel
  have f9 := hts (.fieldLink RX3 9 "StickyHeap$Space" "sort" "[I") (by decide +kernel)
  have f15 := hts (.fieldLink RX3 15 "StickyHeap$Space" "detail" "[I") (by decide +kernel)
  have f18 := hts (.fieldLink RX3 18 "StickyHeap$Space" "barred" "[I") (by decide +kernel)
  have hl := lv_entry [.ref (ad 1), .int a1, .int a2, .int a3] (n := 4) (Nat.le_of_ble_eq_true rfl)
  rw [lg_entry_eq]
  generalize (lg_sl [.ref (ad 1), .int a1, .int a2, .int a3] ++ List.replicate (4 - (lg_sl [.ref (ad 1), .int a1, .int a2, .int a3]).length) Slot.unset).toArray = ls at hl ⊢
  have hl : lv_has ls 4 [(0, .ref (ad 1)), (1, .int a1), (2, .int a2), (3, .int a3)] := hl
  have hP : va_P (dC, dI) vwCl (wC ad cA c) s.heap := hP
  unfold pX3_turn at hM
  refine lv_aload_n hx hb dX3_turn_0 rfl (lv_at hl 0 rfl) ?_
  refine gget (v := .ref (ad 5)) hx hb hts i3 hown hK1 hP 1 rfl rfl 2 (by decide) f9 rfl rfl dX3_turn_1 ?_
  refine lv_iload_n hx hb dX3_turn_4 rfl (lv_at hl 1 rfl) ?_
  refine lv_iload_n hx hb dX3_turn_5 rfl (lv_at hl 2 rfl) ?_
  obtain ⟨h2, c1, hc1, hM⟩ := stA_some sm_ne hM
  refine gast (w := wC ad cA) (c := c) (c1 := c1) hx hb hK1 hP (hD c) hS 5 0 rfl rfl h2 (by rw [hc1]; rfl) dX3_turn_6 (fun H locs hP hS => ?_)
  refine lv_aload_n hx hb dX3_turn_7 rfl (lv_at hl 0 rfl) ?_
  refine gget (v := .ref (ad 6)) hx hb hts i3 hown hK1 hP 1 rfl rfl 3 (by decide) f15 rfl rfl dX3_turn_8 ?_
  refine lv_iload_n hx hb dX3_turn_11 rfl (lv_at hl 1 rfl) ?_
  refine lv_iload_n hx hb dX3_turn_12 rfl (lv_at hl 3 rfl) ?_
  obtain ⟨h4, c3, hc3, hM⟩ := stA_some sm_ne hM
  refine gast (w := wC ad cA) (c := c1) (c1 := c3) hx hb hK1 hP (hD c1) hS 6 1 rfl rfl h4 (by rw [hc3]; rfl) dX3_turn_13 (fun H locs hP hS => ?_)
  refine lv_aload_n hx hb dX3_turn_14 rfl (lv_at hl 0 rfl) ?_
  refine gget (v := .ref (ad 7)) hx hb hts i3 hown hK1 hP 1 rfl rfl 4 (by decide) f18 rfl rfl dX3_turn_15 ?_
  refine lv_iload_n hx hb dX3_turn_18 rfl (lv_at hl 1 rfl) ?_
  refine lv_iconst (v := 0) hx hb dX3_turn_19 (by decide) ?_
  obtain ⟨h6, c5, hc5, hM⟩ := stA_some sm_ne hM
  refine gast (w := wC ad cA) (c := c3) (c1 := c5) hx hb hK1 hP (hD c3) hS 7 2 rfl rfl h6 (by rw [hc5]; rfl) dX3_turn_20 (fun H locs hP hS => ?_)
  exact W.vret hx hb hr (fun t ht hW => ⟨⟨_, rfl, pr1 hM, hPt ht hP⟩, hS.F ht⟩) hS.2.2 dX3_turn_21
set_option maxHeartbeats 4000000 in
set_option maxRecDepth 100000 in
theorem kX3_reset (l : Launch) (dC : Nat → ClassId) (dI : Nat → Nat → Nat) (ad : Nat → Nat) (cA : Nat → ClassId) (hap : apart 17 ad) (sz : Nat) (c : HS) (a1 : Int32) (c9 : HS) (hM : pX3_reset c a1 = some c9) : Met l yX3_reset wsX3_reset ({ frames := 1, cells := 0, slots := 0, locals := 23 }) (gP (dC, dI) (wC ad cA) (kC (dC, dI) cA) c sz [.ref (ad 1), .int a1]) (gQv (dC, dI) (wC ad cA) (fA 17 ad sz) c9) 0 0 (fA 17 ad sz) := by
  refine Met.ofW (cc := cX3_reset) (maxL := 3) (ret := none) (by decide) rfl ?_
  intro p e s m args below meth cd s₁ B hml hv
  obtain ⟨rfl, rfl, hP, hK⟩ := hv
  have hx := B.exec
  have hb := B.bytes
  have hr := B.returns
  have hts := atoms_spec (ws := wsX3_reset) B.pre
  have hown : s.vm.findClass RX3 = some m.cls := findClass_of_methodNamed B.named
  have hlocks := B.notSynchronized
  have hK1 : va_K (dC, dI) vwCl (tC cA) s := hK.1
  have hD : ∀ c, va_D (fA 17 ad s.heap.size) (wC ad cA c) := fun c => dC_ok hap cA c _
  have hS : va_S (fA 17 ad s.heap.size) s.heap s.heap [] := va_S.rf
  have i3 : ∀ w ∈ u_ws RX3 TX3 9, w ∈ wsX3_reset := by decide +kernel
  have f30 := hts (.fieldLink RX3 30 "StickyHeap$Space" "age" "[I") (by decide +kernel)
  have f33 := hts (.fieldLink RX3 33 "StickyHeap$Space" "blocks" "I") (by decide +kernel)
  have f37 := hts (.fieldLink RX3 37 "StickyHeap$Space" "limit" "I") (by decide +kernel)
  have L15 : ∀ (n : Nat) (c : HS) (v2 : Int32) (H : Heap) (locs : List Loc) (ls : Array Slot), pX3_reset_15 n c v2 = some c9 → va_P (dC, dI) vwCl (wC ad cA c) H → va_S (fA 17 ad s.heap.size) s.heap H locs → lv_has ls 3 [(0, .ref (ad 1)), (2, .int v2)] → W p l e (headSpec wsX3_reset ({ frames := 1, cells := 0, slots := 0, locals := 23 })).room s m ([.ref (ad 1), .int a1]).toArray below meth cd H locs 0 0 (MQ below (gQv (dC, dI) (wC ad cA) (fA 17 ad s.heap.size) c9) ([.ref (ad 1), .int a1]).toArray s 0 0 (fA 17 ad s.heap.size)) (F0 m 15 ls []) := by
    intro n
    induction n with
    | zero =>
      intro c v2 H locs ls hM
      exact absurd (Eq.symm (hM : none = some c9)) sm_ne
    | succ n15 ih15 =>
      have L36 : ∀ (n : Nat) (c : HS) (v2 : Int32) (H : Heap) (locs : List Loc) (ls : Array Slot), pX3_reset_36 n c v2 = some c9 → va_P (dC, dI) vwCl (wC ad cA c) H → va_S (fA 17 ad s.heap.size) s.heap H locs → lv_has ls 3 [(0, .ref (ad 1)), (2, .int v2)] → W p l e (headSpec wsX3_reset ({ frames := 1, cells := 0, slots := 0, locals := 23 })).room s m ([.ref (ad 1), .int a1]).toArray below meth cd H locs 0 0 (MQ below (gQv (dC, dI) (wC ad cA) (fA 17 ad s.heap.size) c9) ([.ref (ad 1), .int a1]).toArray s 0 0 (fA 17 ad s.heap.size)) (F0 m 36 ls []) := by
        intro n
        induction n with
        | zero =>
          intro c v2 H locs ls hM
          exact absurd (Eq.symm (hM : none = some c9)) sm_ne
        | succ n36 ih36 =>
          intro c v2 H locs ls hM hP hS hl
          unfold pX3_reset_36 at hM
          refine lv_iload_n hx hb dX3_reset_36 rfl (lv_at hl 1 rfl) ?_
          refine lv_sipush (v := 768) hx hb dX3_reset_37 (by decide) ?_
          refine lv_icmp_ge (tgt := 56) hx hb dX3_reset_40 (by decide) (fun e3 => ?_) (fun e3 => ?_)
          · have hM := it_p e3 hM
            exact W.vret hx hb hr (fun t ht hW => ⟨⟨_, rfl, pr1 hM, hPt ht hP⟩, hS.F ht⟩) hS.2.2 dX3_reset_56
          · have hM := it_n e3 hM
            refine lv_aload_n hx hb dX3_reset_43 rfl (lv_at hl 0 rfl) ?_
            refine gget (v := .ref (ad 11)) hx hb hts i3 hown hK1 hP 1 rfl rfl 8 (by decide) f30 rfl rfl dX3_reset_44 ?_
            refine lv_iload_n hx hb dX3_reset_47 rfl (lv_at hl 1 rfl) ?_
            refine lv_iconst (v := 0) hx hb dX3_reset_48 (by decide) ?_
            obtain ⟨h2, c1, hc1, hM⟩ := stA_some sm_ne hM
            refine gast (w := wC ad cA) (c := c) (c1 := c1) hx hb hK1 hP (hD c) hS 11 6 rfl rfl h2 (by rw [hc1]; rfl) dX3_reset_49 (fun H locs hP hS => ?_)
            refine lv_iinc (v := v2 + 1) (lv' := [(2, .int (v2 + 1)), (0, .ref (ad 1))]) hx hb dX3_reset_50 hl (k := 1) rfl rfl (by decide) rfl (fun ls hl => ?_)
            refine lv_goto (tgt := 36) hx hb dX3_reset_53 (by decide) ?_
            exact ih36 _ _ _ _ _ hM hP hS (lv_sub hl [1, 0] rfl)
      intro c v2 H locs ls hM hP hS hl
      unfold pX3_reset_15 at hM
      refine lv_iload_n hx hb dX3_reset_15 rfl (lv_at hl 1 rfl) ?_
      refine lv_bipush (v := 24) hx hb dX3_reset_16 (by decide) ?_
      refine lv_icmp_ge (tgt := 34) hx hb dX3_reset_18 (by decide) (fun e6 => ?_) (fun e6 => ?_)
      · have hM := it_p e6 hM
        refine lv_iconst (v := 0) hx hb dX3_reset_34 (by decide) ?_
        refine lv_istore_n (lv' := [(2, .int 0), (0, .ref (ad 1))]) hx hb dX3_reset_35 rfl hl (by decide) rfl (fun ls hl => ?_)
        exact L36 _ _ _ _ _ _ hM hP hS (lv_sub hl [1, 0] rfl)
      · have hM := it_n e6 hM
        refine lv_aload_n hx hb dX3_reset_21 rfl (lv_at hl 0 rfl) ?_
        refine lv_iload_n hx hb dX3_reset_22 rfl (lv_at hl 1 rfl) ?_
        refine lv_iconst (v := 0) hx hb dX3_reset_23 (by decide) ?_
        refine lv_iconst (v := 0) hx hb dX3_reset_24 (by decide) ?_
        obtain ⟨c5, h4, hM⟩ := bd1_some sm_ne hM
        refine gCv (gV (As := [.int v2, .int 0, .int 0]) (rest := []) ⟨hx, hb, hml, hown, hts⟩ (kX3_turn l dC dI ad cA hap _ c v2 0 0 _ h4) (cwV 3 hts gX3_reset_X3_turn rfl rfl rfl (by decide +kernel) ⟨Nat.le_of_ble_eq_true rfl, Nat.le_of_ble_eq_true rfl⟩) (kC_st _ _) hK hP (va_recv hK1 hP (ci := 3) (q0 := 1) rfl rfl) rfl hl.1 rfl (Nat.le_of_ble_eq_true rfl) dX3_reset_25 ⟨Nat.zero_le _, Nat.zero_le _⟩) hS (fun H locs hP hS => ?_)
        refine lv_iinc (v := v2 + 1) (lv' := [(2, .int (v2 + 1)), (0, .ref (ad 1))]) hx hb dX3_reset_28 hl (k := 1) rfl rfl (by decide) rfl (fun ls hl => ?_)
        refine lv_goto (tgt := 15) hx hb dX3_reset_31 (by decide) ?_
        exact ih15 _ _ _ _ _ hM hP hS (lv_sub hl [1, 0] rfl)
  have hl := lv_entry [.ref (ad 1), .int a1] (n := 3) (Nat.le_of_ble_eq_true rfl)
  rw [lg_entry_eq]
  generalize (lg_sl [.ref (ad 1), .int a1] ++ List.replicate (3 - (lg_sl [.ref (ad 1), .int a1]).length) Slot.unset).toArray = ls at hl ⊢
  have hl : lv_has ls 3 [(0, .ref (ad 1)), (1, .int a1)] := hl
  have hP : va_P (dC, dI) vwCl (wC ad cA c) s.heap := hP
  unfold pX3_reset at hM
  refine lv_aload_n hx hb dX3_reset_0 rfl (lv_at hl 0 rfl) ?_
  refine lv_iload_n hx hb dX3_reset_1 rfl (lv_at hl 1 rfl) ?_
  obtain ⟨c7, hc7, hM⟩ := pfA_some hM
  refine gput (w := wC ad cA) (c := c) (c1 := c7) (v := .int a1) hx hb hts i3 tyX3 tyX3_ok nmX3 hown hK1 hP (hD c) hS 1 rfl rfl 0 (by decide) f33 rfl rfl rfl rfl (Nat.le_of_ble_eq_true rfl) (by rw [hc7]; rfl) dX3_reset_2 (fun H locs hP hS => ?_)
  refine lv_aload_n hx hb dX3_reset_5 rfl (lv_at hl 0 rfl) ?_
  refine lv_iload_n hx hb dX3_reset_6 rfl (lv_at hl 1 rfl) ?_
  refine lv_bipush (v := 64) hx hb dX3_reset_7 (by decide) ?_
  refine lv_imul hx hb dX3_reset_9 ?_
  obtain ⟨c8, hc8, hM⟩ := pfA_some hM
  refine gput (w := wC ad cA) (c := c7) (c1 := c8) (v := .int (a1 * 64)) hx hb hts i3 tyX3 tyX3_ok nmX3 hown hK1 hP (hD c7) hS 1 rfl rfl 1 (by decide) f37 rfl rfl rfl rfl (Nat.le_of_ble_eq_true rfl) (by rw [hc8]; rfl) dX3_reset_10 (fun H locs hP hS => ?_)
  refine lv_iconst (v := 0) hx hb dX3_reset_13 (by decide) ?_
  refine lv_istore_n (lv' := [(2, .int 0), (0, .ref (ad 1)), (1, .int a1)]) hx hb dX3_reset_14 rfl hl (by decide) rfl (fun ls hl => ?_)
  exact L15 _ _ _ _ _ _ hM hP hS (lv_sub hl [1, 0] rfl)
set_option maxHeartbeats 4000000 in
set_option maxRecDepth 100000 in
theorem kX2_forget (l : Launch) (dC : Nat → ClassId) (dI : Nat → Nat → Nat) (ad : Nat → Nat) (cA : Nat → ClassId) (hap : apart 17 ad) (sz : Nat) (c : HS) (c9 : HS) (hM : pX2_forget c = some c9) : Met l yX2_forget wsX2_forget ({ frames := 0, cells := 0, slots := 0, locals := 0 }) (gP (dC, dI) (wC ad cA) (kC (dC, dI) cA) c sz [.ref (ad 2)]) (gQv (dC, dI) (wC ad cA) (fA 17 ad sz) c9) 0 0 (fA 17 ad sz) := by
  refine Met.ofW (cc := cX2_forget) (maxL := 2) (ret := none) (by decide) rfl ?_
  intro p e s m args below meth cd s₁ B hml hv
  obtain ⟨rfl, rfl, hP, hK⟩ := hv
  have hx := B.exec
  have hb := B.bytes
  have hr := B.returns
  have hts := atoms_spec (ws := wsX2_forget) B.pre
  have hown : s.vm.findClass RX2 = some m.cls := findClass_of_methodNamed B.named
  have hlocks := B.notSynchronized
  have hK1 : va_K (dC, dI) vwCl (tC cA) s := hK.1
  have hD : ∀ c, va_D (fA 17 ad s.heap.size) (wC ad cA c) := fun c => dC_ok hap cA c _
  have hS : va_S (fA 17 ad s.heap.size) s.heap s.heap [] := va_S.rf
  have i2 : ∀ w ∈ u_ws RX2 TX2 5, w ∈ wsX2_forget := by decide +kernel
  have f19 := hts (.fieldLink RX2 19 "StickyHeap$Memory" "dirty" "[I") (by decide +kernel)
  have f22 := hts (.fieldLink RX2 22 "StickyHeap$Memory" "size" "I") (by decide +kernel)
  have f25 := hts (.fieldLink RX2 25 "StickyHeap$Memory" "over" "Z") (by decide +kernel)
  have L12 : ∀ (n : Nat) (c : HS) (v1 : Int32) (H : Heap) (locs : List Loc) (ls : Array Slot), pX2_forget_12 n c v1 = some c9 → va_P (dC, dI) vwCl (wC ad cA c) H → va_S (fA 17 ad s.heap.size) s.heap H locs → lv_has ls 2 [(0, .ref (ad 2)), (1, .int v1)] → W p l e (headSpec wsX2_forget ({ frames := 0, cells := 0, slots := 0, locals := 0 })).room s m ([.ref (ad 2)]).toArray below meth cd H locs 0 0 (MQ below (gQv (dC, dI) (wC ad cA) (fA 17 ad s.heap.size) c9) ([.ref (ad 2)]).toArray s 0 0 (fA 17 ad s.heap.size)) (F0 m 12 ls []) := by
    intro n
    induction n with
    | zero =>
      intro c v1 H locs ls hM
      exact absurd (Eq.symm (hM : none = some c9)) sm_ne
    | succ n12 ih12 =>
      intro c v1 H locs ls hM hP hS hl
      unfold pX2_forget_12 at hM
      refine lv_iload_n hx hb dX2_forget_12 rfl (lv_at hl 1 rfl) ?_
      refine lv_bipush (v := 24) hx hb dX2_forget_13 (by decide) ?_
      refine lv_icmp_ge (tgt := 31) hx hb dX2_forget_15 (by decide) (fun e3 => ?_) (fun e3 => ?_)
      · have hM := it_p e3 hM
        exact W.vret hx hb hr (fun t ht hW => ⟨⟨_, rfl, pr1 hM, hPt ht hP⟩, hS.F ht⟩) hS.2.2 dX2_forget_31
      · have hM := it_n e3 hM
        refine lv_aload_n hx hb dX2_forget_18 rfl (lv_at hl 0 rfl) ?_
        refine gget (v := .ref (ad 13)) hx hb hts i2 hown hK1 hP 2 rfl rfl 4 (by decide) f19 rfl rfl dX2_forget_19 ?_
        refine lv_iload_n hx hb dX2_forget_22 rfl (lv_at hl 1 rfl) ?_
        refine lv_iconst (v := 0) hx hb dX2_forget_23 (by decide) ?_
        obtain ⟨h2, c1, hc1, hM⟩ := stA_some sm_ne hM
        refine gast (w := wC ad cA) (c := c) (c1 := c1) hx hb hK1 hP (hD c) hS 13 8 rfl rfl h2 (by rw [hc1]; rfl) dX2_forget_24 (fun H locs hP hS => ?_)
        refine lv_iinc (v := v1 + 1) (lv' := [(1, .int (v1 + 1)), (0, .ref (ad 2))]) hx hb dX2_forget_25 hl (k := 1) rfl rfl (by decide) rfl (fun ls hl => ?_)
        refine lv_goto (tgt := 12) hx hb dX2_forget_28 (by decide) ?_
        exact ih12 _ _ _ _ _ hM hP hS (lv_sub hl [1, 0] rfl)
  have hl := lv_entry [.ref (ad 2)] (n := 2) (Nat.le_of_ble_eq_true rfl)
  rw [lg_entry_eq]
  generalize (lg_sl [.ref (ad 2)] ++ List.replicate (2 - (lg_sl [.ref (ad 2)]).length) Slot.unset).toArray = ls at hl ⊢
  have hl : lv_has ls 2 [(0, .ref (ad 2))] := hl
  have hP : va_P (dC, dI) vwCl (wC ad cA c) s.heap := hP
  unfold pX2_forget at hM
  refine lv_aload_n hx hb dX2_forget_0 rfl (lv_at hl 0 rfl) ?_
  refine lv_iconst (v := 0) hx hb dX2_forget_1 (by decide) ?_
  obtain ⟨c4, hc4, hM⟩ := pfA_some hM
  refine gput (w := wC ad cA) (c := c) (c1 := c4) (v := .int 0) hx hb hts i2 tyX2 tyX2_ok nmX2 hown hK1 hP (hD c) hS 2 rfl rfl 2 (by decide) f22 rfl rfl rfl rfl (Nat.le_of_ble_eq_true rfl) (by rw [hc4]; rfl) dX2_forget_2 (fun H locs hP hS => ?_)
  refine lv_aload_n hx hb dX2_forget_5 rfl (lv_at hl 0 rfl) ?_
  refine lv_iconst (v := 0) hx hb dX2_forget_6 (by decide) ?_
  obtain ⟨c5, hc5, hM⟩ := pfA_some hM
  refine gput (w := wC ad cA) (c := c4) (c1 := c5) (v := .int 0) hx hb hts i2 tyX2 tyX2_ok nmX2 hown hK1 hP (hD c4) hS 2 rfl rfl 3 (by decide) f25 rfl rfl rfl rfl (Nat.le_of_ble_eq_true rfl) (by rw [hc5]; rfl) dX2_forget_7 (fun H locs hP hS => ?_)
  refine lv_iconst (v := 0) hx hb dX2_forget_10 (by decide) ?_
  refine lv_istore_n (lv' := [(1, .int 0), (0, .ref (ad 2))]) hx hb dX2_forget_11 rfl hl (by decide) rfl (fun ls hl => ?_)
  exact L12 _ _ _ _ _ _ hM hP hS (lv_sub hl [1, 0] rfl)
set_option maxHeartbeats 4000000 in
set_option maxRecDepth 100000 in
theorem kX1_reset (l : Launch) (dC : Nat → ClassId) (dI : Nat → Nat → Nat) (ad : Nat → Nat) (cA : Nat → ClassId) (hap : apart 17 ad) (sz : Nat) (c : HS) (c9 : HS) (hM : pX1_reset c = some c9) : Met l yX1_reset wsX1_reset ({ frames := 0, cells := 0, slots := 0, locals := 0 }) (gP (dC, dI) (wC ad cA) (kC (dC, dI) cA) c sz [.ref (ad 3)]) (gQv (dC, dI) (wC ad cA) (fA 17 ad sz) c9) 0 0 (fA 17 ad sz) := by
  refine Met.ofW (cc := cX1_reset) (maxL := 2) (ret := none) (by decide) rfl ?_
  intro p e s m args below meth cd s₁ B hml hv
  obtain ⟨rfl, rfl, hP, hK⟩ := hv
  have hx := B.exec
  have hb := B.bytes
  have hr := B.returns
  have hts := atoms_spec (ws := wsX1_reset) B.pre
  have hown : s.vm.findClass RX1 = some m.cls := findClass_of_methodNamed B.named
  have hlocks := B.notSynchronized
  have hK1 : va_K (dC, dI) vwCl (tC cA) s := hK.1
  have hD : ∀ c, va_D (fA 17 ad s.heap.size) (wC ad cA c) := fun c => dC_ok hap cA c _
  have hS : va_S (fA 17 ad s.heap.size) s.heap s.heap [] := va_S.rf
  have i1 : ∀ w ∈ u_ws RX1 TX1 3, w ∈ wsX1_reset := by decide +kernel
  have f9 := hts (.fieldLink RX1 9 "StickyHeap$Holders" "roots" "[I") (by decide +kernel)
  have f21 := hts (.fieldLink RX1 21 "StickyHeap$Holders" "height" "I") (by decide +kernel)
  have L2 : ∀ (n : Nat) (c : HS) (v1 : Int32) (H : Heap) (locs : List Loc) (ls : Array Slot), pX1_reset_2 n c v1 = some c9 → va_P (dC, dI) vwCl (wC ad cA c) H → va_S (fA 17 ad s.heap.size) s.heap H locs → lv_has ls 2 [(0, .ref (ad 3)), (1, .int v1)] → W p l e (headSpec wsX1_reset ({ frames := 0, cells := 0, slots := 0, locals := 0 })).room s m ([.ref (ad 3)]).toArray below meth cd H locs 0 0 (MQ below (gQv (dC, dI) (wC ad cA) (fA 17 ad s.heap.size) c9) ([.ref (ad 3)]).toArray s 0 0 (fA 17 ad s.heap.size)) (F0 m 2 ls []) := by
    intro n
    induction n with
    | zero =>
      intro c v1 H locs ls hM
      exact absurd (Eq.symm (hM : none = some c9)) sm_ne
    | succ n2 ih2 =>
      intro c v1 H locs ls hM hP hS hl
      unfold pX1_reset_2 at hM
      refine lv_iload_n hx hb dX1_reset_2 rfl (lv_at hl 1 rfl) ?_
      refine lv_bipush (v := 10) hx hb dX1_reset_3 (by decide) ?_
      refine lv_icmp_ge (tgt := 21) hx hb dX1_reset_5 (by decide) (fun e4 => ?_) (fun e4 => ?_)
      · have hM := it_p e4 hM
        refine lv_aload_n hx hb dX1_reset_21 rfl (lv_at hl 0 rfl) ?_
        refine lv_iconst (v := 0) hx hb dX1_reset_22 (by decide) ?_
        obtain ⟨c1, hc1, hM⟩ := pfA_some hM
        refine gput (w := wC ad cA) (c := c) (c1 := c1) (v := .int 0) hx hb hts i1 tyX1 tyX1_ok nmX1 hown hK1 hP (hD c) hS 3 rfl rfl 2 (by decide) f21 rfl rfl rfl rfl (Nat.le_of_ble_eq_true rfl) (by rw [hc1]; rfl) dX1_reset_23 (fun H locs hP hS => ?_)
        exact W.vret hx hb hr (fun t ht hW => ⟨⟨_, rfl, pr1 hM, hPt ht hP⟩, hS.F ht⟩) hS.2.2 dX1_reset_26
      · have hM := it_n e4 hM
        refine lv_aload_n hx hb dX1_reset_8 rfl (lv_at hl 0 rfl) ?_
        refine gget (v := .ref (ad 14)) hx hb hts i1 hown hK1 hP 3 rfl rfl 0 (by decide) f9 rfl rfl dX1_reset_9 ?_
        refine lv_iload_n hx hb dX1_reset_12 rfl (lv_at hl 1 rfl) ?_
        refine lv_iconst (v := (-1)) hx hb dX1_reset_13 (by decide) ?_
        obtain ⟨h3, c2, hc2, hM⟩ := stA_some sm_ne hM
        refine gast (w := wC ad cA) (c := c) (c1 := c2) hx hb hK1 hP (hD c) hS 14 9 rfl rfl h3 (by rw [hc2]; rfl) dX1_reset_14 (fun H locs hP hS => ?_)
        refine lv_iinc (v := v1 + 1) (lv' := [(1, .int (v1 + 1)), (0, .ref (ad 3))]) hx hb dX1_reset_15 hl (k := 1) rfl rfl (by decide) rfl (fun ls hl => ?_)
        refine lv_goto (tgt := 2) hx hb dX1_reset_18 (by decide) ?_
        exact ih2 _ _ _ _ _ hM hP hS (lv_sub hl [1, 0] rfl)
  have hl := lv_entry [.ref (ad 3)] (n := 2) (Nat.le_of_ble_eq_true rfl)
  rw [lg_entry_eq]
  generalize (lg_sl [.ref (ad 3)] ++ List.replicate (2 - (lg_sl [.ref (ad 3)]).length) Slot.unset).toArray = ls at hl ⊢
  have hl : lv_has ls 2 [(0, .ref (ad 3))] := hl
  have hP : va_P (dC, dI) vwCl (wC ad cA c) s.heap := hP
  unfold pX1_reset at hM
  refine lv_iconst (v := 0) hx hb dX1_reset_0 (by decide) ?_
  refine lv_istore_n (lv' := [(1, .int 0), (0, .ref (ad 3))]) hx hb dX1_reset_1 rfl hl (by decide) rfl (fun ls hl => ?_)
  exact L2 _ _ _ _ _ _ hM hP hS (lv_sub hl [1, 0] rfl)
set_option maxHeartbeats 4000000 in
set_option maxRecDepth 100000 in
theorem kX4_open (l : Launch) (dC : Nat → ClassId) (dI : Nat → Nat → Nat) (ad : Nat → Nat) (cA : Nat → ClassId) (hap : apart 17 ad) (sz : Nat) (c : HS) (a1 : Int32) (r0 : Int32) (c9 : HS) (hM : pX4_open c a1 = some (r0, c9)) : Met l yX4_open wsX4_open ({ frames := 2, cells := 0, slots := 0, locals := 47 }) (gP (dC, dI) (wC ad cA) (kC (dC, dI) cA) c sz [.ref (ad 0), .int a1]) (gQi (dC, dI) (wC ad cA) (fA 17 ad sz) r0 c9) 0 0 (fA 17 ad sz) := by
  refine Met.ofW (cc := cX4_open) (maxL := 3) (ret := (some .int)) (by decide) rfl ?_
  intro p e s m args below meth cd s₁ B hml hv
  obtain ⟨rfl, rfl, hP, hK⟩ := hv
  have hx := B.exec
  have hb := B.bytes
  have hr := B.returns
  have hts := atoms_spec (ws := wsX4_open) B.pre
  have hown : s.vm.findClass RX4 = some m.cls := findClass_of_methodNamed B.named
  have hlocks := B.notSynchronized
  have hK1 : va_K (dC, dI) vwCl (tC cA) s := hK.1
  have hD : ∀ c, va_D (fA 17 ad s.heap.size) (wC ad cA c) := fun c => dC_ok hap cA c _
  have hS : va_S (fA 17 ad s.heap.size) s.heap s.heap [] := va_S.rf
  have i4 : ∀ w ∈ u_ws RX4 TX4 7, w ∈ wsX4_open := by decide +kernel
  have f12 := hts (.fieldLink RX4 12 "StickyHeap" "space" "LStickyHeap$Space;") (by decide +kernel)
  have f19 := hts (.fieldLink RX4 19 "StickyHeap" "memory" "LStickyHeap$Memory;") (by decide +kernel)
  have f26 := hts (.fieldLink RX4 26 "StickyHeap" "holders" "LStickyHeap$Holders;") (by decide +kernel)
  have f56 := hts (.fieldLink RX4 56 "StickyHeap" "lastSeen" "I") (by decide +kernel)
  have hl := lv_entry [.ref (ad 0), .int a1] (n := 3) (Nat.le_of_ble_eq_true rfl)
  rw [lg_entry_eq]
  generalize (lg_sl [.ref (ad 0), .int a1] ++ List.replicate (3 - (lg_sl [.ref (ad 0), .int a1]).length) Slot.unset).toArray = ls at hl ⊢
  have hl : lv_has ls 3 [(0, .ref (ad 0)), (1, .int a1)] := hl
  have hP : va_P (dC, dI) vwCl (wC ad cA c) s.heap := hP
  unfold pX4_open at hM
  refine lv_iload_n hx hb dX4_open_0 rfl (lv_at hl 1 rfl) ?_
  refine lv_iconst (v := 1) hx hb dX4_open_1 (by decide) ?_
  refine lv_icmp_lt (tgt := 11) hx hb dX4_open_2 (by decide) (fun e11 => ?_) (fun e11 => ?_)
  · have hM := it_p e11 hM
    refine lv_bipush (v := (-102)) hx hb dX4_open_11 (by decide) ?_
    exact W.iret hx hb hr (fun t ht hW => ⟨⟨_, _, rfl, pr2 hM, hPt ht hP⟩, hS.F ht⟩) hS.2.2 dX4_open_13
  · have hM := it_n e11 hM
    refine lv_iload_n hx hb dX4_open_5 rfl (lv_at hl 1 rfl) ?_
    refine lv_bipush (v := 24) hx hb dX4_open_6 (by decide) ?_
    refine lv_icmp_le (tgt := 14) hx hb dX4_open_8 (by decide) (fun e10 => ?_) (fun e10 => ?_)
    · have hM := it_p e10 hM
      refine lv_aload_n hx hb dX4_open_14 rfl (lv_at hl 0 rfl) ?_
      refine gget (v := .ref (ad 1)) hx hb hts i4 hown hK1 hP 0 rfl rfl 0 (by decide) f12 rfl rfl dX4_open_15 ?_
      refine lv_iconst (v := 1) hx hb dX4_open_18 (by decide) ?_
      obtain ⟨r2, h1, hM⟩ := bd1_some sm_ne hM
      refine gCi (gV (As := [.int 1]) (rest := []) ⟨hx, hb, hml, hown, hts⟩ (kX3_things l dC dI ad cA hap _ c 1 _ h1) (cwV 1 hts gX4_open_X3_things rfl rfl rfl (by decide +kernel) ⟨Nat.le_of_ble_eq_true rfl, Nat.le_of_ble_eq_true rfl⟩) (kC_st _ _) hK hP (va_recv hK1 hP (ci := 3) (q0 := 1) rfl rfl) rfl hl.1 rfl (Nat.le_of_ble_eq_true rfl) dX4_open_19 ⟨Nat.zero_le _, Nat.zero_le _⟩) hS (fun H locs hP hS => ?_)
      refine lv_istore_n (lv' := [(2, .int r2), (0, .ref (ad 0)), (1, .int a1)]) hx hb dX4_open_22 rfl hl (by decide) rfl (fun ls hl => ?_)
      refine lv_aload_n hx hb dX4_open_23 rfl (lv_at hl 1 rfl) ?_
      refine gget (v := .ref (ad 1)) hx hb hts i4 hown hK1 hP 0 rfl rfl 0 (by decide) f12 rfl rfl dX4_open_24 ?_
      refine lv_iload_n hx hb dX4_open_27 rfl (lv_at hl 2 rfl) ?_
      obtain ⟨c4, h3, hM⟩ := bd1_some sm_ne hM
      refine gCv (gV (As := [.int a1]) (rest := []) ⟨hx, hb, hml, hown, hts⟩ (kX3_reset l dC dI ad cA hap _ c a1 _ h3) (cwV 1 hts gX4_open_X3_reset rfl rfl rfl (by decide +kernel) ⟨Nat.le_of_ble_eq_true rfl, Nat.le_of_ble_eq_true rfl⟩) (kC_st _ _) hK hP (va_recv hK1 hP (ci := 3) (q0 := 1) rfl rfl) rfl hl.1 rfl (Nat.le_of_ble_eq_true rfl) dX4_open_28 ⟨Nat.zero_le _, Nat.zero_le _⟩) hS (fun H locs hP hS => ?_)
      refine lv_aload_n hx hb dX4_open_31 rfl (lv_at hl 1 rfl) ?_
      refine gget (v := .ref (ad 2)) hx hb hts i4 hown hK1 hP 0 rfl rfl 1 (by decide) f19 rfl rfl dX4_open_32 ?_
      obtain ⟨c6, h5, hM⟩ := bd1_some sm_ne hM
      refine gCv (gV (As := []) (rest := []) ⟨hx, hb, hml, hown, hts⟩ (kX2_forget l dC dI ad cA hap _ c4 _ h5) (cwV 0 hts gX4_open_X2_forget rfl rfl rfl (by decide +kernel) ⟨Nat.le_of_ble_eq_true rfl, Nat.le_of_ble_eq_true rfl⟩) (kC_st _ _) hK hP (va_recv hK1 hP (ci := 2) (q0 := 2) rfl rfl) rfl hl.1 rfl (Nat.le_of_ble_eq_true rfl) dX4_open_35 ⟨Nat.zero_le _, Nat.zero_le _⟩) hS (fun H locs hP hS => ?_)
      refine lv_aload_n hx hb dX4_open_38 rfl (lv_at hl 1 rfl) ?_
      refine gget (v := .ref (ad 3)) hx hb hts i4 hown hK1 hP 0 rfl rfl 2 (by decide) f26 rfl rfl dX4_open_39 ?_
      obtain ⟨c8, h7, hM⟩ := bd1_some sm_ne hM
      refine gCv (gV (As := []) (rest := []) ⟨hx, hb, hml, hown, hts⟩ (kX1_reset l dC dI ad cA hap _ c6 _ h7) (cwV 0 hts gX4_open_X1_reset rfl rfl rfl (by decide +kernel) ⟨Nat.le_of_ble_eq_true rfl, Nat.le_of_ble_eq_true rfl⟩) (kC_st _ _) hK hP (va_recv hK1 hP (ci := 1) (q0 := 3) rfl rfl) rfl hl.1 rfl (Nat.le_of_ble_eq_true rfl) dX4_open_42 ⟨Nat.zero_le _, Nat.zero_le _⟩) hS (fun H locs hP hS => ?_)
      refine lv_aload_n hx hb dX4_open_45 rfl (lv_at hl 1 rfl) ?_
      refine lv_iconst (v := 0) hx hb dX4_open_46 (by decide) ?_
      obtain ⟨c9, hc9, hM⟩ := pfA_some hM
      refine gput (w := wC ad cA) (c := c8) (c1 := c9) (v := .int 0) hx hb hts i4 tyX4 tyX4_ok nmX4 hown hK1 hP (hD c8) hS 0 rfl rfl 5 (by decide) f56 rfl rfl rfl rfl (Nat.le_of_ble_eq_true rfl) (by rw [hc9]; rfl) dX4_open_47 (fun H locs hP hS => ?_)
      refine lv_iload_n hx hb dX4_open_50 rfl (lv_at hl 0 rfl) ?_
      exact W.iret hx hb hr (fun t ht hW => ⟨⟨_, _, rfl, pr2 hM, hPt ht hP⟩, hS.F ht⟩) hS.2.2 dX4_open_51
    · have hM := it_n e10 hM
      refine lv_bipush (v := (-102)) hx hb dX4_open_11 (by decide) ?_
      exact W.iret hx hb hr (fun t ht hW => ⟨⟨_, _, rfl, pr2 hM, hPt ht hP⟩, hS.F ht⟩) hS.2.2 dX4_open_13
set_option maxHeartbeats 4000000 in
set_option maxRecDepth 100000 in
theorem kX4_way (l : Launch) (dC : Nat → ClassId) (dI : Nat → Nat → Nat) (ad : Nat → Nat) (cA : Nat → ClassId) (hap : apart 17 ad) (sz : Nat) (c : HS) (a1 : Int32) (r0 : Int32) (c9 : HS) (hM : pX4_way c a1 = some (r0, c9)) : Met l yX4_way wsX4_way ({ frames := 2, cells := 0, slots := 0, locals := 47 }) (gP (dC, dI) (wC ad cA) (kC (dC, dI) cA) c sz [.ref (ad 0), .int a1]) (gQi (dC, dI) (wC ad cA) (fA 17 ad sz) r0 c9) 0 0 (fA 17 ad sz) := by
  refine Met.ofW (cc := cX4_way) (maxL := 3) (ret := (some .int)) (by decide) rfl ?_
  intro p e s m args below meth cd s₁ B hml hv
  obtain ⟨rfl, rfl, hP, hK⟩ := hv
  have hx := B.exec
  have hb := B.bytes
  have hr := B.returns
  have hts := atoms_spec (ws := wsX4_way) B.pre
  have hown : s.vm.findClass RX4 = some m.cls := findClass_of_methodNamed B.named
  have hlocks := B.notSynchronized
  have hK1 : va_K (dC, dI) vwCl (tC cA) s := hK.1
  have hD : ∀ c, va_D (fA 17 ad s.heap.size) (wC ad cA c) := fun c => dC_ok hap cA c _
  have hS : va_S (fA 17 ad s.heap.size) s.heap s.heap [] := va_S.rf
  have i4 : ∀ w ∈ u_ws RX4 TX4 7, w ∈ wsX4_way := by decide +kernel
  have i2 : ∀ w ∈ u_ws RX2 TX2 5, w ∈ wsX4_way := by decide +kernel
  have f12 := hts (.fieldLink RX4 12 "StickyHeap" "space" "LStickyHeap$Space;") (by decide +kernel)
  have f19 := hts (.fieldLink RX4 19 "StickyHeap" "memory" "LStickyHeap$Memory;") (by decide +kernel)
  have f60 := hts (.fieldLink RX4 60 "StickyHeap$Memory" "way" "I") (by decide +kernel)
  have L12 : ∀ (c : HS) (v1 : Int32) (H : Heap) (locs : List Loc) (ls : Array Slot), pX4_way_12 c v1 = some (r0, c9) → va_P (dC, dI) vwCl (wC ad cA c) H → va_S (fA 17 ad s.heap.size) s.heap H locs → lv_has ls 3 [(0, .ref (ad 0)), (1, .int v1)] → W p l e (headSpec wsX4_way ({ frames := 2, cells := 0, slots := 0, locals := 47 })).room s m ([.ref (ad 0), .int a1]).toArray below meth cd H locs 0 0 (MQ below (gQi (dC, dI) (wC ad cA) (fA 17 ad s.heap.size) r0 c9) ([.ref (ad 0), .int a1]).toArray s 0 0 (fA 17 ad s.heap.size)) (F0 m 12 ls []) := by
    intro c v1 H locs ls hM hP hS hl
    unfold pX4_way_12 at hM
    refine lv_aload_n hx hb dX4_way_12 rfl (lv_at hl 0 rfl) ?_
    refine gget (v := .ref (ad 1)) hx hb hts i4 hown hK1 hP 0 rfl rfl 0 (by decide) f12 rfl rfl dX4_way_13 ?_
    refine lv_iconst (v := 1) hx hb dX4_way_16 (by decide) ?_
    obtain ⟨r2, h1, hM⟩ := bd1_some sm_ne hM
    refine gCi (gV (As := [.int 1]) (rest := []) ⟨hx, hb, hml, hown, hts⟩ (kX3_things l dC dI ad cA hap _ c 1 _ h1) (cwV 1 hts gX4_way_X3_things rfl rfl rfl (by decide +kernel) ⟨Nat.le_of_ble_eq_true rfl, Nat.le_of_ble_eq_true rfl⟩) (kC_st _ _) hK hP (va_recv hK1 hP (ci := 3) (q0 := 1) rfl rfl) rfl hl.1 rfl (Nat.le_of_ble_eq_true rfl) dX4_way_17 ⟨Nat.zero_le _, Nat.zero_le _⟩) hS (fun H locs hP hS => ?_)
    refine lv_if_le (tgt := 26) hx hb dX4_way_20 (by decide) (fun e4 => ?_) (fun e4 => ?_)
    · have hM := it_p e4 hM
      refine lv_aload_n hx hb dX4_way_26 rfl (lv_at hl 0 rfl) ?_
      refine gget (v := .ref (ad 2)) hx hb hts i4 hown hK1 hP 0 rfl rfl 1 (by decide) f19 rfl rfl dX4_way_27 ?_
      refine gget (v := .int (c.1 0 2)) hx hb hts i2 hown hK1 hP 2 rfl rfl 0 (by decide) f60 rfl rfl dX4_way_30 ?_
      refine lv_istore_n (lv' := [(2, .int (c.1 0 2)), (0, .ref (ad 0)), (1, .int v1)]) hx hb dX4_way_33 rfl hl (by decide) rfl (fun ls hl => ?_)
      refine lv_aload_n hx hb dX4_way_34 rfl (lv_at hl 1 rfl) ?_
      refine gget (v := .ref (ad 2)) hx hb hts i4 hown hK1 hP 0 rfl rfl 1 (by decide) f19 rfl rfl dX4_way_35 ?_
      refine lv_iload_n hx hb dX4_way_38 rfl (lv_at hl 2 rfl) ?_
      obtain ⟨c3, hc3, hM⟩ := pfA_some hM
      refine gput (w := wC ad cA) (c := c) (c1 := c3) (v := .int v1) hx hb hts i2 tyX2 tyX2_ok nmX2 hown hK1 hP (hD c) hS 2 rfl rfl 0 (by decide) f60 rfl rfl rfl rfl (Nat.le_of_ble_eq_true rfl) (by rw [hc3]; rfl) dX4_way_39 (fun H locs hP hS => ?_)
      refine lv_iload_n hx hb dX4_way_42 rfl (lv_at hl 0 rfl) ?_
      exact W.iret hx hb hr (fun t ht hW => ⟨⟨_, _, rfl, pr2 hM, hPt ht hP⟩, hS.F ht⟩) hS.2.2 dX4_way_43
    · have hM := it_n e4 hM
      refine lv_bipush (v := (-103)) hx hb dX4_way_23 (by decide) ?_
      exact W.iret hx hb hr (fun t ht hW => ⟨⟨_, _, rfl, pr2 hM, hPt ht hP⟩, hS.F ht⟩) hS.2.2 dX4_way_25
  have hl := lv_entry [.ref (ad 0), .int a1] (n := 3) (Nat.le_of_ble_eq_true rfl)
  rw [lg_entry_eq]
  generalize (lg_sl [.ref (ad 0), .int a1] ++ List.replicate (3 - (lg_sl [.ref (ad 0), .int a1]).length) Slot.unset).toArray = ls at hl ⊢
  have hl : lv_has ls 3 [(0, .ref (ad 0)), (1, .int a1)] := hl
  have hP : va_P (dC, dI) vwCl (wC ad cA c) s.heap := hP
  unfold pX4_way at hM
  refine lv_iload_n hx hb dX4_way_0 rfl (lv_at hl 1 rfl) ?_
  refine lv_if_eq (tgt := 12) hx hb dX4_way_1 (by decide) (fun e6 => ?_) (fun e6 => ?_)
  · have hM := it_p e6 hM
    exact L12 _ _ _ _ _ hM hP hS (lv_sub hl [0, 1] rfl)
  · have hM := it_n e6 hM
    refine lv_iload_n hx hb dX4_way_4 rfl (lv_at hl 1 rfl) ?_
    refine lv_iconst (v := 1) hx hb dX4_way_5 (by decide) ?_
    refine lv_icmp_eq (tgt := 12) hx hb dX4_way_6 (by decide) (fun e5 => ?_) (fun e5 => ?_)
    · have hM := it_p e5 hM
      exact L12 _ _ _ _ _ hM hP hS (lv_sub hl [0, 1] rfl)
    · have hM := it_n e5 hM
      refine lv_bipush (v := (-102)) hx hb dX4_way_9 (by decide) ?_
      exact W.iret hx hb hr (fun t ht hW => ⟨⟨_, _, rfl, pr2 hM, hPt ht hP⟩, hS.F ht⟩) hS.2.2 dX4_way_11
set_option maxHeartbeats 4000000 in
set_option maxRecDepth 100000 in
theorem kX4_flag (l : Launch) (dC : Nat → ClassId) (dI : Nat → Nat → Nat) (ad : Nat → Nat) (cA : Nat → ClassId) (hap : apart 17 ad) (sz : Nat) (c : HS) (a0 : Int32) (r0 : Int32) (hM : pX4_flag a0 = r0) : Met l yX4_flag wsX4_flag ({ frames := 0, cells := 0, slots := 0, locals := 0 }) (gP (dC, dI) (wC ad cA) (kC (dC, dI) cA) c sz [.int a0]) (gQi (dC, dI) (wC ad cA) (fA 17 ad sz) r0 c) 0 0 (fA 17 ad sz) := by
  refine Met.ofW (cc := cX4_flag) (maxL := 1) (ret := (some .int)) (by decide) rfl ?_
  intro p e s m args below meth cd s₁ B hml hv
  obtain ⟨rfl, rfl, hP, hK⟩ := hv
  have hx := B.exec
  have hb := B.bytes
  have hr := B.returns
  have hts := atoms_spec (ws := wsX4_flag) B.pre
  have hown : s.vm.findClass RX4 = some m.cls := findClass_of_methodNamed B.named
  have hlocks := B.notSynchronized
  have hK1 : va_K (dC, dI) vwCl (tC cA) s := hK.1
  have hD : ∀ c, va_D (fA 17 ad s.heap.size) (wC ad cA c) := fun c => dC_ok hap cA c _
  have hS : va_S (fA 17 ad s.heap.size) s.heap s.heap [] := va_S.rf
  have hl := lv_entry [.int a0] (n := 1) (Nat.le_of_ble_eq_true rfl)
  rw [lg_entry_eq]
  generalize (lg_sl [.int a0] ++ List.replicate (1 - (lg_sl [.int a0]).length) Slot.unset).toArray = ls at hl ⊢
  have hl : lv_has ls 1 [(0, .int a0)] := hl
  have hP : va_P (dC, dI) vwCl (wC ad cA c) s.heap := hP
  unfold pX4_flag at hM
  refine lv_iload_n hx hb dX4_flag_0 rfl (lv_at hl 0 rfl) ?_
  refine lv_if_eq (tgt := 8) hx hb dX4_flag_1 (by decide) (fun e1 => ?_) (fun e1 => ?_)
  · have hM := it_p e1 hM
    refine lv_iconst (v := 0) hx hb dX4_flag_8 (by decide) ?_
    exact W.iret hx hb hr (fun t ht hW => ⟨⟨_, _, rfl, ⟨hM, rfl⟩, hPt ht hP⟩, hS.F ht⟩) hS.2.2 dX4_flag_9
  · have hM := it_n e1 hM
    refine lv_iconst (v := 1) hx hb dX4_flag_4 (by decide) ?_
    refine lv_goto (tgt := 9) hx hb dX4_flag_5 (by decide) ?_
    exact W.iret hx hb hr (fun t ht hW => ⟨⟨_, _, rfl, ⟨hM, rfl⟩, hPt ht hP⟩, hS.F ht⟩) hS.2.2 dX4_flag_9
set_option maxHeartbeats 4000000 in
set_option maxRecDepth 100000 in
theorem kX4_auto (l : Launch) (dC : Nat → ClassId) (dI : Nat → Nat → Nat) (ad : Nat → Nat) (cA : Nat → ClassId) (hap : apart 17 ad) (sz : Nat) (c : HS) (a1 : Int32) (r0 : Int32) (c9 : HS) (hM : pX4_auto c a1 = some (r0, c9)) : Met l yX4_auto wsX4_auto ({ frames := 1, cells := 0, slots := 0, locals := 20 }) (gP (dC, dI) (wC ad cA) (kC (dC, dI) cA) c sz [.ref (ad 0), .int a1]) (gQi (dC, dI) (wC ad cA) (fA 17 ad sz) r0 c9) 0 0 (fA 17 ad sz) := by
  refine Met.ofW (cc := cX4_auto) (maxL := 3) (ret := (some .int)) (by decide) rfl ?_
  intro p e s m args below meth cd s₁ B hml hv
  obtain ⟨rfl, rfl, hP, hK⟩ := hv
  have hx := B.exec
  have hb := B.bytes
  have hr := B.returns
  have hts := atoms_spec (ws := wsX4_auto) B.pre
  have hown : s.vm.findClass RX4 = some m.cls := findClass_of_methodNamed B.named
  have hlocks := B.notSynchronized
  have hK1 : va_K (dC, dI) vwCl (tC cA) s := hK.1
  have hD : ∀ c, va_D (fA 17 ad s.heap.size) (wC ad cA c) := fun c => dC_ok hap cA c _
  have hS : va_S (fA 17 ad s.heap.size) s.heap s.heap [] := va_S.rf
  have i4 : ∀ w ∈ u_ws RX4 TX4 7, w ∈ wsX4_auto := by decide +kernel
  have f39 := hts (.fieldLink RX4 39 "StickyHeap" "collectsItself" "Z") (by decide +kernel)
  have hl := lv_entry [.ref (ad 0), .int a1] (n := 3) (Nat.le_of_ble_eq_true rfl)
  rw [lg_entry_eq]
  generalize (lg_sl [.ref (ad 0), .int a1] ++ List.replicate (3 - (lg_sl [.ref (ad 0), .int a1]).length) Slot.unset).toArray = ls at hl ⊢
  have hl : lv_has ls 3 [(0, .ref (ad 0)), (1, .int a1)] := hl
  have hP : va_P (dC, dI) vwCl (wC ad cA c) s.heap := hP
  unfold pX4_auto at hM
  refine lv_aload_n hx hb dX4_auto_0 rfl (lv_at hl 0 rfl) ?_
  refine gget (v := .int (c.1 0 11)) hx hb hts i4 hown hK1 hP 0 rfl rfl 4 (by decide) f39 rfl rfl dX4_auto_1 ?_
  refine gCi (gS (As := [.int (c.1 0 11)]) (rest := []) ⟨hx, hb, hml, hown, hts⟩ (kX4_flag l dC dI ad cA hap _ c (c.1 0 11) _ rfl) (va_cwS 1 hts gX4_auto_X4_flag rfl rfl rfl (by decide +kernel) ⟨Nat.le_of_ble_eq_true rfl, Nat.le_of_ble_eq_true rfl⟩) (kC_st _ _) hK hP rfl hl.1 rfl (Nat.le_of_ble_eq_true rfl) dX4_auto_4 ⟨Nat.zero_le _, Nat.zero_le _⟩) hS (fun H locs hP hS => ?_)
  refine lv_istore_n (lv' := [(2, .int (pX4_flag (c.1 0 11))), (0, .ref (ad 0)), (1, .int a1)]) hx hb dX4_auto_7 rfl hl (by decide) rfl (fun ls hl => ?_)
  refine lv_aload_n hx hb dX4_auto_8 rfl (lv_at hl 1 rfl) ?_
  refine lv_iload_n hx hb dX4_auto_9 rfl (lv_at hl 2 rfl) ?_
  obtain ⟨h2, hM⟩ := gdZ_some sm_ne hM
  obtain ⟨c1, hc1, hM⟩ := pfA_some hM
  refine gput (w := wC ad cA) (c := c) (c1 := c1) (v := .int a1) hx hb hts i4 tyX4 tyX4_ok nmX4 hown hK1 hP (hD c) hS 0 rfl rfl 4 (by decide) f39 rfl rfl h2.1 h2.2 (Nat.le_of_ble_eq_true rfl) (by rw [hc1]; rfl) dX4_auto_10 (fun H locs hP hS => ?_)
  refine lv_iload_n hx hb dX4_auto_13 rfl (lv_at hl 0 rfl) ?_
  exact W.iret hx hb hr (fun t ht hW => ⟨⟨_, _, rfl, pr2 hM, hPt ht hP⟩, hS.F ht⟩) hS.2.2 dX4_auto_14
set_option maxHeartbeats 4000000 in
set_option maxRecDepth 100000 in
theorem kX4_isShape (l : Launch) (dC : Nat → ClassId) (dI : Nat → Nat → Nat) (ad : Nat → Nat) (cA : Nat → ClassId) (hap : apart 17 ad) (sz : Nat) (c : HS) (a0 : Int32) (a1 : Int32) (r0 : Int32) (hM : pX4_isShape a0 a1 = r0) : Met l yX4_isShape wsX4_isShape ({ frames := 0, cells := 0, slots := 0, locals := 0 }) (gP (dC, dI) (wC ad cA) (kC (dC, dI) cA) c sz [.int a0, .int a1]) (gQi (dC, dI) (wC ad cA) (fA 17 ad sz) r0 c) 0 0 (fA 17 ad sz) := by
  refine Met.ofW (cc := cX4_isShape) (maxL := 2) (ret := (some .boolean)) (by decide) rfl ?_
  intro p e s m args below meth cd s₁ B hml hv
  obtain ⟨rfl, rfl, hP, hK⟩ := hv
  have hx := B.exec
  have hb := B.bytes
  have hr := B.returns
  have hts := atoms_spec (ws := wsX4_isShape) B.pre
  have hown : s.vm.findClass RX4 = some m.cls := findClass_of_methodNamed B.named
  have hlocks := B.notSynchronized
  have hK1 : va_K (dC, dI) vwCl (tC cA) s := hK.1
  have hD : ∀ c, va_D (fA 17 ad s.heap.size) (wC ad cA c) := fun c => dC_ok hap cA c _
  have hS : va_S (fA 17 ad s.heap.size) s.heap s.heap [] := va_S.rf
  have hl := lv_entry [.int a0, .int a1] (n := 2) (Nat.le_of_ble_eq_true rfl)
  rw [lg_entry_eq]
  generalize (lg_sl [.int a0, .int a1] ++ List.replicate (2 - (lg_sl [.int a0, .int a1]).length) Slot.unset).toArray = ls at hl ⊢
  have hl : lv_has ls 2 [(0, .int a0), (1, .int a1)] := hl
  have hP : va_P (dC, dI) vwCl (wC ad cA c) s.heap := hP
  unfold pX4_isShape at hM
  refine lv_iload_n hx hb dX4_isShape_0 rfl (lv_at hl 0 rfl) ?_
  refine lv_if_lt (tgt := 22) hx hb dX4_isShape_1 (by decide) (fun e6 => ?_) (fun e6 => ?_)
  · have hM := it_p e6 hM
    refine lv_iconst (v := 0) hx hb dX4_isShape_22 (by decide) ?_
    exact W.zret hx hb hr rfl (fun t ht hW => ⟨⟨_, _, rfl, ⟨hM, rfl⟩, hPt ht hP⟩, hS.F ht⟩) hS.2.2 dX4_isShape_23
  · have hM := it_n e6 hM
    refine lv_iload_n hx hb dX4_isShape_4 rfl (lv_at hl 1 rfl) ?_
    refine lv_if_lt (tgt := 22) hx hb dX4_isShape_5 (by decide) (fun e5 => ?_) (fun e5 => ?_)
    · have hM := it_p e5 hM
      refine lv_iconst (v := 0) hx hb dX4_isShape_22 (by decide) ?_
      exact W.zret hx hb hr rfl (fun t ht hW => ⟨⟨_, _, rfl, ⟨hM, rfl⟩, hPt ht hP⟩, hS.F ht⟩) hS.2.2 dX4_isShape_23
    · have hM := it_n e5 hM
      refine lv_iload_n hx hb dX4_isShape_8 rfl (lv_at hl 0 rfl) ?_
      refine lv_sipush (v := 256) hx hb dX4_isShape_9 (by decide) ?_
      refine lv_icmp_gt (tgt := 22) hx hb dX4_isShape_12 (by decide) (fun e4 => ?_) (fun e4 => ?_)
      · have hM := it_p e4 hM
        refine lv_iconst (v := 0) hx hb dX4_isShape_22 (by decide) ?_
        exact W.zret hx hb hr rfl (fun t ht hW => ⟨⟨_, _, rfl, ⟨hM, rfl⟩, hPt ht hP⟩, hS.F ht⟩) hS.2.2 dX4_isShape_23
      · have hM := it_n e4 hM
        refine lv_iload_n hx hb dX4_isShape_15 rfl (lv_at hl 1 rfl) ?_
        refine lv_sipush (v := 256) hx hb dX4_isShape_16 (by decide) ?_
        refine lv_icmp_le (tgt := 24) hx hb dX4_isShape_19 (by decide) (fun e3 => ?_) (fun e3 => ?_)
        · have hM := it_p e3 hM
          refine lv_iload_n hx hb dX4_isShape_24 rfl (lv_at hl 0 rfl) ?_
          refine lv_iload_n hx hb dX4_isShape_25 rfl (lv_at hl 1 rfl) ?_
          refine lv_iadd hx hb dX4_isShape_26 ?_
          refine lv_iconst (v := 1) hx hb dX4_isShape_27 (by decide) ?_
          refine lv_icmp_lt (tgt := 44) hx hb dX4_isShape_28 (by decide) (fun e2 => ?_) (fun e2 => ?_)
          · have hM := it_p e2 hM
            refine lv_iconst (v := 0) hx hb dX4_isShape_44 (by decide) ?_
            exact W.zret hx hb hr rfl (fun t ht hW => ⟨⟨_, _, rfl, ⟨hM, rfl⟩, hPt ht hP⟩, hS.F ht⟩) hS.2.2 dX4_isShape_45
          · have hM := it_n e2 hM
            refine lv_iload_n hx hb dX4_isShape_31 rfl (lv_at hl 0 rfl) ?_
            refine lv_iload_n hx hb dX4_isShape_32 rfl (lv_at hl 1 rfl) ?_
            refine lv_iadd hx hb dX4_isShape_33 ?_
            refine lv_sipush (v := 256) hx hb dX4_isShape_34 (by decide) ?_
            refine lv_icmp_gt (tgt := 44) hx hb dX4_isShape_37 (by decide) (fun e1 => ?_) (fun e1 => ?_)
            · have hM := it_p e1 hM
              refine lv_iconst (v := 0) hx hb dX4_isShape_44 (by decide) ?_
              exact W.zret hx hb hr rfl (fun t ht hW => ⟨⟨_, _, rfl, ⟨hM, rfl⟩, hPt ht hP⟩, hS.F ht⟩) hS.2.2 dX4_isShape_45
            · have hM := it_n e1 hM
              refine lv_iconst (v := 1) hx hb dX4_isShape_40 (by decide) ?_
              refine lv_goto (tgt := 45) hx hb dX4_isShape_41 (by decide) ?_
              exact W.zret hx hb hr rfl (fun t ht hW => ⟨⟨_, _, rfl, ⟨hM, rfl⟩, hPt ht hP⟩, hS.F ht⟩) hS.2.2 dX4_isShape_45
        · have hM := it_n e3 hM
          refine lv_iconst (v := 0) hx hb dX4_isShape_22 (by decide) ?_
          exact W.zret hx hb hr rfl (fun t ht hW => ⟨⟨_, _, rfl, ⟨hM, rfl⟩, hPt ht hP⟩, hS.F ht⟩) hS.2.2 dX4_isShape_23
set_option maxHeartbeats 4000000 in
set_option maxRecDepth 100000 in
theorem kX4_cellWords (l : Launch) (dC : Nat → ClassId) (dI : Nat → Nat → Nat) (ad : Nat → Nat) (cA : Nat → ClassId) (hap : apart 17 ad) (sz : Nat) (c : HS) (a0 : Int32) (r0 : Int32) (hM : pX4_cellWords a0 = r0) : Met l yX4_cellWords wsX4_cellWords ({ frames := 0, cells := 0, slots := 0, locals := 0 }) (gP (dC, dI) (wC ad cA) (kC (dC, dI) cA) c sz [.int a0]) (gQi (dC, dI) (wC ad cA) (fA 17 ad sz) r0 c) 0 0 (fA 17 ad sz) := by
  refine Met.ofW (cc := cX4_cellWords) (maxL := 1) (ret := (some .int)) (by decide) rfl ?_
  intro p e s m args below meth cd s₁ B hml hv
  obtain ⟨rfl, rfl, hP, hK⟩ := hv
  have hx := B.exec
  have hb := B.bytes
  have hr := B.returns
  have hts := atoms_spec (ws := wsX4_cellWords) B.pre
  have hown : s.vm.findClass RX4 = some m.cls := findClass_of_methodNamed B.named
  have hlocks := B.notSynchronized
  have hK1 : va_K (dC, dI) vwCl (tC cA) s := hK.1
  have hD : ∀ c, va_D (fA 17 ad s.heap.size) (wC ad cA c) := fun c => dC_ok hap cA c _
  have hS : va_S (fA 17 ad s.heap.size) s.heap s.heap [] := va_S.rf
  have hl := lv_entry [.int a0] (n := 1) (Nat.le_of_ble_eq_true rfl)
  rw [lg_entry_eq]
  generalize (lg_sl [.int a0] ++ List.replicate (1 - (lg_sl [.int a0]).length) Slot.unset).toArray = ls at hl ⊢
  have hl : lv_has ls 1 [(0, .int a0)] := hl
  have hP : va_P (dC, dI) vwCl (wC ad cA c) s.heap := hP
  unfold pX4_cellWords at hM
  refine lv_iconst (v := 2) hx hb dX4_cellWords_0 (by decide) ?_
  refine lv_iload_n hx hb dX4_cellWords_1 rfl (lv_at hl 0 rfl) ?_
  refine lv_ishl hx hb dX4_cellWords_2 ?_
  exact W.iret hx hb hr (fun t ht hW => ⟨⟨_, _, rfl, ⟨hM, rfl⟩, hPt ht hP⟩, hS.F ht⟩) hS.2.2 dX4_cellWords_3
set_option maxHeartbeats 4000000 in
set_option maxRecDepth 100000 in
theorem kX4_classFor (l : Launch) (dC : Nat → ClassId) (dI : Nat → Nat → Nat) (ad : Nat → Nat) (cA : Nat → ClassId) (hap : apart 17 ad) (sz : Nat) (c : HS) (a0 : Int32) (r0 : Int32) (hM : pX4_classFor a0 = some r0) : Met l yX4_classFor wsX4_classFor ({ frames := 1, cells := 0, slots := 0, locals := 20 }) (gP (dC, dI) (wC ad cA) (kC (dC, dI) cA) c sz [.int a0]) (gQi (dC, dI) (wC ad cA) (fA 17 ad sz) r0 c) 0 0 (fA 17 ad sz) := by
  refine Met.ofW (cc := cX4_classFor) (maxL := 2) (ret := (some .int)) (by decide) rfl ?_
  intro p e s m args below meth cd s₁ B hml hv
  obtain ⟨rfl, rfl, hP, hK⟩ := hv
  have hx := B.exec
  have hb := B.bytes
  have hr := B.returns
  have hts := atoms_spec (ws := wsX4_classFor) B.pre
  have hown : s.vm.findClass RX4 = some m.cls := findClass_of_methodNamed B.named
  have hlocks := B.notSynchronized
  have hK1 : va_K (dC, dI) vwCl (tC cA) s := hK.1
  have hD : ∀ c, va_D (fA 17 ad s.heap.size) (wC ad cA c) := fun c => dC_ok hap cA c _
  have hS : va_S (fA 17 ad s.heap.size) s.heap s.heap [] := va_S.rf
  have L2 : ∀ (n : Nat) (v0 : Int32) (v1 : Int32) (H : Heap) (locs : List Loc) (ls : Array Slot), pX4_classFor_2 n v0 v1 = some r0 → va_P (dC, dI) vwCl (wC ad cA c) H → va_S (fA 17 ad s.heap.size) s.heap H locs → lv_has ls 2 [(0, .int v0), (1, .int v1)] → W p l e (headSpec wsX4_classFor ({ frames := 1, cells := 0, slots := 0, locals := 20 })).room s m ([.int a0]).toArray below meth cd H locs 0 0 (MQ below (gQi (dC, dI) (wC ad cA) (fA 17 ad s.heap.size) r0 c) ([.int a0]).toArray s 0 0 (fA 17 ad s.heap.size)) (F0 m 2 ls []) := by
    intro n
    induction n with
    | zero =>
      intro v0 v1 H locs ls hM
      exact absurd (Eq.symm (hM : none = some r0)) sm_ne
    | succ n2 ih2 =>
      intro v0 v1 H locs ls hM hP hS hl
      unfold pX4_classFor_2 at hM
      refine lv_iload_n hx hb dX4_classFor_2 rfl (lv_at hl 1 rfl) ?_
      refine lv_iconst (v := 5) hx hb dX4_classFor_3 (by decide) ?_
      refine lv_icmp_ge (tgt := 23) hx hb dX4_classFor_4 (by decide) (fun e2 => ?_) (fun e2 => ?_)
      · have hM := it_p e2 hM
        refine lv_iconst (v := 5) hx hb dX4_classFor_23 (by decide) ?_
        exact W.iret hx hb hr (fun t ht hW => ⟨⟨_, _, rfl, ⟨pr1 hM, rfl⟩, hPt ht hP⟩, hS.F ht⟩) hS.2.2 dX4_classFor_24
      · have hM := it_n e2 hM
        refine lv_iload_n hx hb dX4_classFor_7 rfl (lv_at hl 0 rfl) ?_
        refine lv_iload_n hx hb dX4_classFor_8 rfl (lv_at hl 1 rfl) ?_
        refine gCi (gS (As := [.int v1]) (rest := [.int v0]) ⟨hx, hb, hml, hown, hts⟩ (kX4_cellWords l dC dI ad cA hap _ c v1 _ rfl) (va_cwS 1 hts gX4_classFor_X4_cellWords rfl rfl rfl (by decide +kernel) ⟨Nat.le_of_ble_eq_true rfl, Nat.le_of_ble_eq_true rfl⟩) (kC_st _ _) hK hP rfl hl.1 rfl (Nat.le_of_ble_eq_true rfl) dX4_classFor_9 ⟨Nat.zero_le _, Nat.zero_le _⟩) hS (fun H locs hP hS => ?_)
        refine lv_icmp_gt (tgt := 17) hx hb dX4_classFor_12 (by decide) (fun e1 => ?_) (fun e1 => ?_)
        · have hM := it_p e1 hM
          refine lv_iinc (v := v1 + 1) (lv' := [(1, .int (v1 + 1)), (0, .int v0)]) hx hb dX4_classFor_17 hl (k := 1) rfl rfl (by decide) rfl (fun ls hl => ?_)
          refine lv_goto (tgt := 2) hx hb dX4_classFor_20 (by decide) ?_
          exact ih2 _ _ _ _ _ hM hP hS (lv_sub hl [1, 0] rfl)
        · have hM := it_n e1 hM
          refine lv_iload_n hx hb dX4_classFor_15 rfl (lv_at hl 1 rfl) ?_
          exact W.iret hx hb hr (fun t ht hW => ⟨⟨_, _, rfl, ⟨pr1 hM, rfl⟩, hPt ht hP⟩, hS.F ht⟩) hS.2.2 dX4_classFor_16
  have hl := lv_entry [.int a0] (n := 2) (Nat.le_of_ble_eq_true rfl)
  rw [lg_entry_eq]
  generalize (lg_sl [.int a0] ++ List.replicate (2 - (lg_sl [.int a0]).length) Slot.unset).toArray = ls at hl ⊢
  have hl : lv_has ls 2 [(0, .int a0)] := hl
  have hP : va_P (dC, dI) vwCl (wC ad cA c) s.heap := hP
  unfold pX4_classFor at hM
  refine lv_iconst (v := 0) hx hb dX4_classFor_0 (by decide) ?_
  refine lv_istore_n (lv' := [(1, .int 0), (0, .int a0)]) hx hb dX4_classFor_1 rfl hl (by decide) rfl (fun ls hl => ?_)
  exact L2 _ _ _ _ _ _ hM hP hS (lv_sub hl [1, 0] rfl)
set_option maxHeartbeats 4000000 in
set_option maxRecDepth 100000 in
theorem kX4_blocksFor (l : Launch) (dC : Nat → ClassId) (dI : Nat → Nat → Nat) (ad : Nat → Nat) (cA : Nat → ClassId) (hap : apart 17 ad) (sz : Nat) (c : HS) (a0 : Int32) (r0 : Int32) (hM : pX4_blocksFor a0 = r0) : Met l yX4_blocksFor wsX4_blocksFor ({ frames := 0, cells := 0, slots := 0, locals := 0 }) (gP (dC, dI) (wC ad cA) (kC (dC, dI) cA) c sz [.int a0]) (gQi (dC, dI) (wC ad cA) (fA 17 ad sz) r0 c) 0 0 (fA 17 ad sz) := by
  refine Met.ofW (cc := cX4_blocksFor) (maxL := 1) (ret := (some .int)) (by decide) rfl ?_
  intro p e s m args below meth cd s₁ B hml hv
  obtain ⟨rfl, rfl, hP, hK⟩ := hv
  have hx := B.exec
  have hb := B.bytes
  have hr := B.returns
  have hts := atoms_spec (ws := wsX4_blocksFor) B.pre
  have hown : s.vm.findClass RX4 = some m.cls := findClass_of_methodNamed B.named
  have hlocks := B.notSynchronized
  have hK1 : va_K (dC, dI) vwCl (tC cA) s := hK.1
  have hD : ∀ c, va_D (fA 17 ad s.heap.size) (wC ad cA c) := fun c => dC_ok hap cA c _
  have hS : va_S (fA 17 ad s.heap.size) s.heap s.heap [] := va_S.rf
  have hl := lv_entry [.int a0] (n := 1) (Nat.le_of_ble_eq_true rfl)
  rw [lg_entry_eq]
  generalize (lg_sl [.int a0] ++ List.replicate (1 - (lg_sl [.int a0]).length) Slot.unset).toArray = ls at hl ⊢
  have hl : lv_has ls 1 [(0, .int a0)] := hl
  have hP : va_P (dC, dI) vwCl (wC ad cA c) s.heap := hP
  unfold pX4_blocksFor at hM
  refine lv_iload_n hx hb dX4_blocksFor_0 rfl (lv_at hl 0 rfl) ?_
  refine lv_bipush (v := 64) hx hb dX4_blocksFor_1 (by decide) ?_
  refine lv_iadd hx hb dX4_blocksFor_3 ?_
  refine lv_iconst (v := 1) hx hb dX4_blocksFor_4 (by decide) ?_
  refine lv_isub hx hb dX4_blocksFor_5 ?_
  refine lv_bipush (v := 64) hx hb dX4_blocksFor_6 (by decide) ?_
  refine lv_idiv hx hb dX4_blocksFor_8 (by decide) ?_
  exact W.iret hx hb hr (fun t ht hW => ⟨⟨_, _, rfl, ⟨hM, rfl⟩, hPt ht hP⟩, hS.F ht⟩) hS.2.2 dX4_blocksFor_9
set_option maxHeartbeats 4000000 in
set_option maxRecDepth 100000 in
theorem kX3_freeRow (l : Launch) (dC : Nat → ClassId) (dI : Nat → Nat → Nat) (ad : Nat → Nat) (cA : Nat → ClassId) (hap : apart 17 ad) (sz : Nat) (c : HS) (a1 : Int32) (a2 : Int32) (r0 : Int32) (hM : pX3_freeRow c a1 a2 = some r0) : Met l yX3_freeRow wsX3_freeRow ({ frames := 0, cells := 0, slots := 0, locals := 0 }) (gP (dC, dI) (wC ad cA) (kC (dC, dI) cA) c sz [.ref (ad 1), .int a1, .int a2]) (gQi (dC, dI) (wC ad cA) (fA 17 ad sz) r0 c) 0 0 (fA 17 ad sz) := by
  refine Met.ofW (cc := cX3_freeRow) (maxL := 6) (ret := (some .int)) (by decide) rfl ?_
  intro p e s m args below meth cd s₁ B hml hv
  obtain ⟨rfl, rfl, hP, hK⟩ := hv
  have hx := B.exec
  have hb := B.bytes
  have hr := B.returns
  have hts := atoms_spec (ws := wsX3_freeRow) B.pre
  have hown : s.vm.findClass RX3 = some m.cls := findClass_of_methodNamed B.named
  have hlocks := B.notSynchronized
  have hK1 : va_K (dC, dI) vwCl (tC cA) s := hK.1
  have hD : ∀ c, va_D (fA 17 ad s.heap.size) (wC ad cA c) := fun c => dC_ok hap cA c _
  have hS : va_S (fA 17 ad s.heap.size) s.heap s.heap [] := va_S.rf
  have i3 : ∀ w ∈ u_ws RX3 TX3 9, w ∈ wsX3_freeRow := by decide +kernel
  have f9 := hts (.fieldLink RX3 9 "StickyHeap$Space" "sort" "[I") (by decide +kernel)
  have f18 := hts (.fieldLink RX3 18 "StickyHeap$Space" "barred" "[I") (by decide +kernel)
  have f33 := hts (.fieldLink RX3 33 "StickyHeap$Space" "blocks" "I") (by decide +kernel)
  have L5 : ∀ (n : Nat) (v1 : Int32) (v2 : Int32) (v3 : Int32) (v4 : Int32) (H : Heap) (locs : List Loc) (ls : Array Slot), pX3_freeRow_5 c n v1 v2 v3 v4 = some r0 → va_P (dC, dI) vwCl (wC ad cA c) H → va_S (fA 17 ad s.heap.size) s.heap H locs → lv_has ls 6 [(0, .ref (ad 1)), (1, .int v1), (2, .int v2), (3, .int v3), (4, .int v4)] → W p l e (headSpec wsX3_freeRow ({ frames := 0, cells := 0, slots := 0, locals := 0 })).room s m ([.ref (ad 1), .int a1, .int a2]).toArray below meth cd H locs 0 0 (MQ below (gQi (dC, dI) (wC ad cA) (fA 17 ad s.heap.size) r0 c) ([.ref (ad 1), .int a1, .int a2]).toArray s 0 0 (fA 17 ad s.heap.size)) (F0 m 5 ls []) := by
    intro n
    induction n with
    | zero =>
      intro v1 v2 v3 v4 H locs ls hM
      exact absurd (Eq.symm (hM : none = some r0)) sm_ne
    | succ n5 ih5 =>
      have L44 : ∀ (v1 : Int32) (v2 : Int32) (v3 : Int32) (v4 : Int32) (s0 : Int32) (H : Heap) (locs : List Loc) (ls : Array Slot), pX3_freeRow_44 (pX3_freeRow_5 c n5) c v1 v2 v3 v4 s0 = some r0 → va_P (dC, dI) vwCl (wC ad cA c) H → va_S (fA 17 ad s.heap.size) s.heap H locs → lv_has ls 6 [(0, .ref (ad 1)), (1, .int v1), (2, .int v2), (3, .int v3), (4, .int v4)] → W p l e (headSpec wsX3_freeRow ({ frames := 0, cells := 0, slots := 0, locals := 0 })).room s m ([.ref (ad 1), .int a1, .int a2]).toArray below meth cd H locs 0 0 (MQ below (gQi (dC, dI) (wC ad cA) (fA 17 ad s.heap.size) r0 c) ([.ref (ad 1), .int a1, .int a2]).toArray s 0 0 (fA 17 ad s.heap.size)) (F0 m 44 ls [.int s0]) := by
        have L58 : ∀ (v1 : Int32) (v2 : Int32) (v4 : Int32) (s0 : Int32) (H : Heap) (locs : List Loc) (ls : Array Slot), pX3_freeRow_58 (pX3_freeRow_5 c n5) c v1 v2 v4 s0 = some r0 → va_P (dC, dI) vwCl (wC ad cA c) H → va_S (fA 17 ad s.heap.size) s.heap H locs → lv_has ls 6 [(0, .ref (ad 1)), (1, .int v1), (2, .int v2), (4, .int v4)] → W p l e (headSpec wsX3_freeRow ({ frames := 0, cells := 0, slots := 0, locals := 0 })).room s m ([.ref (ad 1), .int a1, .int a2]).toArray below meth cd H locs 0 0 (MQ below (gQi (dC, dI) (wC ad cA) (fA 17 ad s.heap.size) r0 c) ([.ref (ad 1), .int a1, .int a2]).toArray s 0 0 (fA 17 ad s.heap.size)) (F0 m 58 ls [.int s0]) := by
          intro v1 v2 v4 s0 H locs ls hM hP hS hl
          unfold pX3_freeRow_58 at hM
          refine lv_istore_n (lv' := [(3, .int s0), (0, .ref (ad 1)), (1, .int v1), (2, .int v2), (4, .int v4)]) hx hb dX3_freeRow_58 rfl hl (by decide) rfl (fun ls hl => ?_)
          refine lv_iload_n hx hb dX3_freeRow_59 rfl (lv_at hl 0 rfl) ?_
          refine lv_iload_n hx hb dX3_freeRow_60 rfl (lv_at hl 2 rfl) ?_
          refine lv_icmp_ne (tgt := 74) hx hb dX3_freeRow_61 (by decide) (fun e1 => ?_) (fun e1 => ?_)
          · have hM := it_n e1 hM
            refine lv_iinc (v := v4 + 1) (lv' := [(4, .int (v4 + 1)), (3, .int s0), (0, .ref (ad 1)), (1, .int v1), (2, .int v2)]) hx hb dX3_freeRow_74 hl (k := 4) rfl rfl (by decide) rfl (fun ls hl => ?_)
            refine lv_goto (tgt := 5) hx hb dX3_freeRow_77 (by decide) ?_
            exact ih5 _ _ _ _ _ _ _ hM hP hS (lv_sub hl [2, 3, 4, 1, 0] rfl)
          · have hM := it_p e1 hM
            refine lv_iload hx hb dX3_freeRow_64 (lv_at hl 4 rfl) ?_
            refine lv_iload_n hx hb dX3_freeRow_66 rfl (lv_at hl 2 rfl) ?_
            refine lv_isub hx hb dX3_freeRow_67 ?_
            refine lv_iconst (v := 1) hx hb dX3_freeRow_68 (by decide) ?_
            refine lv_iadd hx hb dX3_freeRow_69 ?_
            refine lv_bipush (v := 64) hx hb dX3_freeRow_70 (by decide) ?_
            refine lv_imul hx hb dX3_freeRow_72 ?_
            exact W.iret hx hb hr (fun t ht hW => ⟨⟨_, _, rfl, ⟨pr1 hM, rfl⟩, hPt ht hP⟩, hS.F ht⟩) hS.2.2 dX3_freeRow_73
        intro v1 v2 v3 v4 s0 H locs ls hM hP hS hl
        unfold pX3_freeRow_44 at hM
        refine lv_istore (lv' := [(5, .int s0), (0, .ref (ad 1)), (1, .int v1), (2, .int v2), (3, .int v3), (4, .int v4)]) hx hb dX3_freeRow_44 hl (by decide) rfl (fun ls hl => ?_)
        refine lv_iload hx hb dX3_freeRow_46 (lv_at hl 0 rfl) ?_
        refine lv_if_eq (tgt := 57) hx hb dX3_freeRow_48 (by decide) (fun e2 => ?_) (fun e2 => ?_)
        · have hM := it_p e2 hM
          refine lv_iconst (v := 0) hx hb dX3_freeRow_57 (by decide) ?_
          exact L58 _ _ _ _ _ _ _ hM hP hS (lv_sub hl [1, 2, 3, 5] rfl)
        · have hM := it_n e2 hM
          refine lv_iload_n hx hb dX3_freeRow_51 rfl (lv_at hl 4 rfl) ?_
          refine lv_iconst (v := 1) hx hb dX3_freeRow_52 (by decide) ?_
          refine lv_iadd hx hb dX3_freeRow_53 ?_
          refine lv_goto (tgt := 58) hx hb dX3_freeRow_54 (by decide) ?_
          exact L58 _ _ _ _ _ _ _ hM hP hS (lv_sub hl [1, 2, 3, 5] rfl)
      intro v1 v2 v3 v4 H locs ls hM hP hS hl
      unfold pX3_freeRow_5 at hM
      refine lv_iload hx hb dX3_freeRow_5 (lv_at hl 4 rfl) ?_
      refine lv_aload_n hx hb dX3_freeRow_7 rfl (lv_at hl 0 rfl) ?_
      refine gget (v := .int (c.1 0 0)) hx hb hts i3 hown hK1 hP 1 rfl rfl 0 (by decide) f33 rfl rfl dX3_freeRow_8 ?_
      refine lv_icmp_ge (tgt := 80) hx hb dX3_freeRow_11 (by decide) (fun e10 => ?_) (fun e10 => ?_)
      · have hM := it_p e10 hM
        refine lv_iconst (v := (-1)) hx hb dX3_freeRow_80 (by decide) ?_
        exact W.iret hx hb hr (fun t ht hW => ⟨⟨_, _, rfl, ⟨pr1 hM, rfl⟩, hPt ht hP⟩, hS.F ht⟩) hS.2.2 dX3_freeRow_81
      · have hM := it_n e10 hM
        refine lv_aload_n hx hb dX3_freeRow_14 rfl (lv_at hl 0 rfl) ?_
        refine gget (v := .ref (ad 5)) hx hb hts i3 hown hK1 hP 1 rfl rfl 2 (by decide) f9 rfl rfl dX3_freeRow_15 ?_
        refine lv_iload hx hb dX3_freeRow_18 (lv_at hl 4 rfl) ?_
        obtain ⟨h4, x3, hx3, hM⟩ := ldA_some sm_ne hM
        refine gald hx hb hK1 hP 5 0 rfl rfl h4 hx3 dX3_freeRow_20 ?_
        refine lv_if_ne (tgt := 43) hx hb dX3_freeRow_21 (by decide) (fun e9 => ?_) (fun e9 => ?_)
        · have hM := it_n e9 hM
          refine lv_iconst (v := 0) hx hb dX3_freeRow_43 (by decide) ?_
          exact L44 _ _ _ _ _ _ _ _ hM hP hS (lv_sub hl [0, 1, 2, 3, 4] rfl)
        · have hM := it_p e9 hM
          refine lv_iload_n hx hb dX3_freeRow_24 rfl (lv_at hl 2 rfl) ?_
          refine lv_if_eq (tgt := 39) hx hb dX3_freeRow_25 (by decide) (fun e8 => ?_) (fun e8 => ?_)
          · have hM := it_p e8 hM
            refine lv_iconst (v := 1) hx hb dX3_freeRow_39 (by decide) ?_
            refine lv_goto (tgt := 44) hx hb dX3_freeRow_40 (by decide) ?_
            exact L44 _ _ _ _ _ _ _ _ hM hP hS (lv_sub hl [0, 1, 2, 3, 4] rfl)
          · have hM := it_n e8 hM
            refine lv_aload_n hx hb dX3_freeRow_28 rfl (lv_at hl 0 rfl) ?_
            refine gget (v := .ref (ad 7)) hx hb hts i3 hown hK1 hP 1 rfl rfl 4 (by decide) f18 rfl rfl dX3_freeRow_29 ?_
            refine lv_iload hx hb dX3_freeRow_32 (lv_at hl 4 rfl) ?_
            obtain ⟨h6, x5, hx5, hM⟩ := ldA_some sm_ne hM
            refine gald hx hb hK1 hP 7 2 rfl rfl h6 hx5 dX3_freeRow_34 ?_
            refine lv_iconst (v := 1) hx hb dX3_freeRow_35 (by decide) ?_
            refine lv_icmp_eq (tgt := 43) hx hb dX3_freeRow_36 (by decide) (fun e7 => ?_) (fun e7 => ?_)
            · have hM := it_p e7 hM
              refine lv_iconst (v := 0) hx hb dX3_freeRow_43 (by decide) ?_
              exact L44 _ _ _ _ _ _ _ _ hM hP hS (lv_sub hl [0, 1, 2, 3, 4] rfl)
            · have hM := it_n e7 hM
              refine lv_iconst (v := 1) hx hb dX3_freeRow_39 (by decide) ?_
              refine lv_goto (tgt := 44) hx hb dX3_freeRow_40 (by decide) ?_
              exact L44 _ _ _ _ _ _ _ _ hM hP hS (lv_sub hl [0, 1, 2, 3, 4] rfl)
  have hl := lv_entry [.ref (ad 1), .int a1, .int a2] (n := 6) (Nat.le_of_ble_eq_true rfl)
  rw [lg_entry_eq]
  generalize (lg_sl [.ref (ad 1), .int a1, .int a2] ++ List.replicate (6 - (lg_sl [.ref (ad 1), .int a1, .int a2]).length) Slot.unset).toArray = ls at hl ⊢
  have hl : lv_has ls 6 [(0, .ref (ad 1)), (1, .int a1), (2, .int a2)] := hl
  have hP : va_P (dC, dI) vwCl (wC ad cA c) s.heap := hP
  unfold pX3_freeRow at hM
  refine lv_iconst (v := 0) hx hb dX3_freeRow_0 (by decide) ?_
  refine lv_istore_n (lv' := [(3, .int 0), (0, .ref (ad 1)), (1, .int a1), (2, .int a2)]) hx hb dX3_freeRow_1 rfl hl (by decide) rfl (fun ls hl => ?_)
  refine lv_iconst (v := 0) hx hb dX3_freeRow_2 (by decide) ?_
  refine lv_istore (lv' := [(4, .int 0), (3, .int 0), (0, .ref (ad 1)), (1, .int a1), (2, .int a2)]) hx hb dX3_freeRow_3 hl (by decide) rfl (fun ls hl => ?_)
  exact L5 _ _ _ _ _ _ _ _ hM hP hS (lv_sub hl [2, 3, 4, 1, 0] rfl)
set_option maxHeartbeats 4000000 in
set_option maxRecDepth 100000 in
theorem kX4_cellsOf (l : Launch) (dC : Nat → ClassId) (dI : Nat → Nat → Nat) (ad : Nat → Nat) (cA : Nat → ClassId) (hap : apart 17 ad) (sz : Nat) (c : HS) (a0 : Int32) (r0 : Int32) (hM : pX4_cellsOf a0 = r0) : Met l yX4_cellsOf wsX4_cellsOf ({ frames := 0, cells := 0, slots := 0, locals := 0 }) (gP (dC, dI) (wC ad cA) (kC (dC, dI) cA) c sz [.int a0]) (gQi (dC, dI) (wC ad cA) (fA 17 ad sz) r0 c) 0 0 (fA 17 ad sz) := by
  refine Met.ofW (cc := cX4_cellsOf) (maxL := 1) (ret := (some .int)) (by decide) rfl ?_
  intro p e s m args below meth cd s₁ B hml hv
  obtain ⟨rfl, rfl, hP, hK⟩ := hv
  have hx := B.exec
  have hb := B.bytes
  have hr := B.returns
  have hts := atoms_spec (ws := wsX4_cellsOf) B.pre
  have hown : s.vm.findClass RX4 = some m.cls := findClass_of_methodNamed B.named
  have hlocks := B.notSynchronized
  have hK1 : va_K (dC, dI) vwCl (tC cA) s := hK.1
  have hD : ∀ c, va_D (fA 17 ad s.heap.size) (wC ad cA c) := fun c => dC_ok hap cA c _
  have hS : va_S (fA 17 ad s.heap.size) s.heap s.heap [] := va_S.rf
  have hl := lv_entry [.int a0] (n := 1) (Nat.le_of_ble_eq_true rfl)
  rw [lg_entry_eq]
  generalize (lg_sl [.int a0] ++ List.replicate (1 - (lg_sl [.int a0]).length) Slot.unset).toArray = ls at hl ⊢
  have hl : lv_has ls 1 [(0, .int a0)] := hl
  have hP : va_P (dC, dI) vwCl (wC ad cA c) s.heap := hP
  unfold pX4_cellsOf at hM
  refine lv_bipush (v := 32) hx hb dX4_cellsOf_0 (by decide) ?_
  refine lv_iload_n hx hb dX4_cellsOf_2 rfl (lv_at hl 0 rfl) ?_
  refine lv_ishr hx hb dX4_cellsOf_3 ?_
  exact W.iret hx hb hr (fun t ht hW => ⟨⟨_, _, rfl, ⟨hM, rfl⟩, hPt ht hP⟩, hS.F ht⟩) hS.2.2 dX4_cellsOf_4
set_option maxHeartbeats 4000000 in
set_option maxRecDepth 100000 in
theorem kX3_isThing (l : Launch) (dC : Nat → ClassId) (dI : Nat → Nat → Nat) (ad : Nat → Nat) (cA : Nat → ClassId) (hap : apart 17 ad) (sz : Nat) (c : HS) (a1 : Int32) (r0 : Int32) (hM : pX3_isThing c a1 = some r0) : Met l yX3_isThing wsX3_isThing ({ frames := 0, cells := 0, slots := 0, locals := 0 }) (gP (dC, dI) (wC ad cA) (kC (dC, dI) cA) c sz [.ref (ad 1), .int a1]) (gQi (dC, dI) (wC ad cA) (fA 17 ad sz) r0 c) 0 0 (fA 17 ad sz) := by
  refine Met.ofW (cc := cX3_isThing) (maxL := 2) (ret := (some .boolean)) (by decide) rfl ?_
  intro p e s m args below meth cd s₁ B hml hv
  obtain ⟨rfl, rfl, hP, hK⟩ := hv
  have hx := B.exec
  have hb := B.bytes
  have hr := B.returns
  have hts := atoms_spec (ws := wsX3_isThing) B.pre
  have hown : s.vm.findClass RX3 = some m.cls := findClass_of_methodNamed B.named
  have hlocks := B.notSynchronized
  have hK1 : va_K (dC, dI) vwCl (tC cA) s := hK.1
  have hD : ∀ c, va_D (fA 17 ad s.heap.size) (wC ad cA c) := fun c => dC_ok hap cA c _
  have hS : va_S (fA 17 ad s.heap.size) s.heap s.heap [] := va_S.rf
  have i3 : ∀ w ∈ u_ws RX3 TX3 9, w ∈ wsX3_isThing := by decide +kernel
  have f30 := hts (.fieldLink RX3 30 "StickyHeap$Space" "age" "[I") (by decide +kernel)
  have f37 := hts (.fieldLink RX3 37 "StickyHeap$Space" "limit" "I") (by decide +kernel)
  have hl := lv_entry [.ref (ad 1), .int a1] (n := 2) (Nat.le_of_ble_eq_true rfl)
  rw [lg_entry_eq]
  generalize (lg_sl [.ref (ad 1), .int a1] ++ List.replicate (2 - (lg_sl [.ref (ad 1), .int a1]).length) Slot.unset).toArray = ls at hl ⊢
  have hl : lv_has ls 2 [(0, .ref (ad 1)), (1, .int a1)] := hl
  have hP : va_P (dC, dI) vwCl (wC ad cA c) s.heap := hP
  unfold pX3_isThing at hM
  refine lv_iload_n hx hb dX3_isThing_0 rfl (lv_at hl 1 rfl) ?_
  refine lv_if_lt (tgt := 33) hx hb dX3_isThing_1 (by decide) (fun e6 => ?_) (fun e6 => ?_)
  · have hM := it_p e6 hM
    refine lv_iconst (v := 0) hx hb dX3_isThing_33 (by decide) ?_
    exact W.zret hx hb hr rfl (fun t ht hW => ⟨⟨_, _, rfl, ⟨pr1 hM, rfl⟩, hPt ht hP⟩, hS.F ht⟩) hS.2.2 dX3_isThing_34
  · have hM := it_n e6 hM
    refine lv_iload_n hx hb dX3_isThing_4 rfl (lv_at hl 1 rfl) ?_
    refine lv_aload_n hx hb dX3_isThing_5 rfl (lv_at hl 0 rfl) ?_
    refine gget (v := .int (c.1 0 1)) hx hb hts i3 hown hK1 hP 1 rfl rfl 1 (by decide) f37 rfl rfl dX3_isThing_6 ?_
    refine lv_icmp_ge (tgt := 33) hx hb dX3_isThing_9 (by decide) (fun e5 => ?_) (fun e5 => ?_)
    · have hM := it_p e5 hM
      refine lv_iconst (v := 0) hx hb dX3_isThing_33 (by decide) ?_
      exact W.zret hx hb hr rfl (fun t ht hW => ⟨⟨_, _, rfl, ⟨pr1 hM, rfl⟩, hPt ht hP⟩, hS.F ht⟩) hS.2.2 dX3_isThing_34
    · have hM := it_n e5 hM
      refine lv_iload_n hx hb dX3_isThing_12 rfl (lv_at hl 1 rfl) ?_
      refine lv_iconst (v := 2) hx hb dX3_isThing_13 (by decide) ?_
      refine lv_irem hx hb dX3_isThing_14 (by decide) ?_
      refine lv_if_ne (tgt := 33) hx hb dX3_isThing_15 (by decide) (fun e4 => ?_) (fun e4 => ?_)
      · have hM := it_n e4 hM
        refine lv_iconst (v := 0) hx hb dX3_isThing_33 (by decide) ?_
        exact W.zret hx hb hr rfl (fun t ht hW => ⟨⟨_, _, rfl, ⟨pr1 hM, rfl⟩, hPt ht hP⟩, hS.F ht⟩) hS.2.2 dX3_isThing_34
      · have hM := it_p e4 hM
        refine lv_aload_n hx hb dX3_isThing_18 rfl (lv_at hl 0 rfl) ?_
        refine gget (v := .ref (ad 11)) hx hb hts i3 hown hK1 hP 1 rfl rfl 8 (by decide) f30 rfl rfl dX3_isThing_19 ?_
        refine lv_iload_n hx hb dX3_isThing_22 rfl (lv_at hl 1 rfl) ?_
        refine lv_iconst (v := 2) hx hb dX3_isThing_23 (by decide) ?_
        refine lv_idiv hx hb dX3_isThing_24 (by decide) ?_
        obtain ⟨h2, x1, hx1, hM⟩ := ldA_some sm_ne hM
        refine gald hx hb hK1 hP 11 6 rfl rfl h2 hx1 dX3_isThing_25 ?_
        refine lv_if_eq (tgt := 33) hx hb dX3_isThing_26 (by decide) (fun e3 => ?_) (fun e3 => ?_)
        · have hM := it_p e3 hM
          refine lv_iconst (v := 0) hx hb dX3_isThing_33 (by decide) ?_
          exact W.zret hx hb hr rfl (fun t ht hW => ⟨⟨_, _, rfl, ⟨pr1 hM, rfl⟩, hPt ht hP⟩, hS.F ht⟩) hS.2.2 dX3_isThing_34
        · have hM := it_n e3 hM
          refine lv_iconst (v := 1) hx hb dX3_isThing_29 (by decide) ?_
          refine lv_goto (tgt := 34) hx hb dX3_isThing_30 (by decide) ?_
          exact W.zret hx hb hr rfl (fun t ht hW => ⟨⟨_, _, rfl, ⟨pr1 hM, rfl⟩, hPt ht hP⟩, hS.F ht⟩) hS.2.2 dX3_isThing_34
set_option maxHeartbeats 4000000 in
set_option maxRecDepth 100000 in
theorem kX3_freeCell (l : Launch) (dC : Nat → ClassId) (dI : Nat → Nat → Nat) (ad : Nat → Nat) (cA : Nat → ClassId) (hap : apart 17 ad) (sz : Nat) (c : HS) (a1 : Int32) (r0 : Int32) (hM : pX3_freeCell c a1 = some r0) : Met l yX3_freeCell wsX3_freeCell ({ frames := 1, cells := 0, slots := 0, locals := 21 }) (gP (dC, dI) (wC ad cA) (kC (dC, dI) cA) c sz [.ref (ad 1), .int a1]) (gQi (dC, dI) (wC ad cA) (fA 17 ad sz) r0 c) 0 0 (fA 17 ad sz) := by
  refine Met.ofW (cc := cX3_freeCell) (maxL := 5) (ret := (some .int)) (by decide) rfl ?_
  intro p e s m args below meth cd s₁ B hml hv
  obtain ⟨rfl, rfl, hP, hK⟩ := hv
  have hx := B.exec
  have hb := B.bytes
  have hr := B.returns
  have hts := atoms_spec (ws := wsX3_freeCell) B.pre
  have hown : s.vm.findClass RX3 = some m.cls := findClass_of_methodNamed B.named
  have hlocks := B.notSynchronized
  have hK1 : va_K (dC, dI) vwCl (tC cA) s := hK.1
  have hD : ∀ c, va_D (fA 17 ad s.heap.size) (wC ad cA c) := fun c => dC_ok hap cA c _
  have hS : va_S (fA 17 ad s.heap.size) s.heap s.heap [] := va_S.rf
  have i3 : ∀ w ∈ u_ws RX3 TX3 9, w ∈ wsX3_freeCell := by decide +kernel
  have f9 := hts (.fieldLink RX3 9 "StickyHeap$Space" "sort" "[I") (by decide +kernel)
  have f15 := hts (.fieldLink RX3 15 "StickyHeap$Space" "detail" "[I") (by decide +kernel)
  have f33 := hts (.fieldLink RX3 33 "StickyHeap$Space" "blocks" "I") (by decide +kernel)
  have L2 : ∀ (n : Nat) (v1 : Int32) (v2 : Int32) (H : Heap) (locs : List Loc) (ls : Array Slot), pX3_freeCell_2 c n v1 v2 = some r0 → va_P (dC, dI) vwCl (wC ad cA c) H → va_S (fA 17 ad s.heap.size) s.heap H locs → lv_has ls 5 [(0, .ref (ad 1)), (1, .int v1), (2, .int v2)] → W p l e (headSpec wsX3_freeCell ({ frames := 1, cells := 0, slots := 0, locals := 21 })).room s m ([.ref (ad 1), .int a1]).toArray below meth cd H locs 0 0 (MQ below (gQi (dC, dI) (wC ad cA) (fA 17 ad s.heap.size) r0 c) ([.ref (ad 1), .int a1]).toArray s 0 0 (fA 17 ad s.heap.size)) (F0 m 2 ls []) := by
    intro n
    induction n with
    | zero =>
      intro v1 v2 H locs ls hM
      exact absurd (Eq.symm (hM : none = some r0)) sm_ne
    | succ n2 ih2 =>
      have L35 : ∀ (n : Nat) (v1 : Int32) (v2 : Int32) (v3 : Int32) (H : Heap) (locs : List Loc) (ls : Array Slot), pX3_freeCell_35 (pX3_freeCell_2 c n2) c n v1 v2 v3 = some r0 → va_P (dC, dI) vwCl (wC ad cA c) H → va_S (fA 17 ad s.heap.size) s.heap H locs → lv_has ls 5 [(0, .ref (ad 1)), (1, .int v1), (2, .int v2), (3, .int v3)] → W p l e (headSpec wsX3_freeCell ({ frames := 1, cells := 0, slots := 0, locals := 21 })).room s m ([.ref (ad 1), .int a1]).toArray below meth cd H locs 0 0 (MQ below (gQi (dC, dI) (wC ad cA) (fA 17 ad s.heap.size) r0 c) ([.ref (ad 1), .int a1]).toArray s 0 0 (fA 17 ad s.heap.size)) (F0 m 35 ls []) := by
        intro n
        induction n with
        | zero =>
          intro v1 v2 v3 H locs ls hM
          exact absurd (Eq.symm (hM : none = some r0)) sm_ne
        | succ n35 ih35 =>
          intro v1 v2 v3 H locs ls hM hP hS hl
          unfold pX3_freeCell_35 at hM
          refine lv_iload_n hx hb dX3_freeCell_35 rfl (lv_at hl 3 rfl) ?_
          refine lv_iload_n hx hb dX3_freeCell_36 rfl (lv_at hl 1 rfl) ?_
          refine gCi (gSN (As := [.int v1]) (rest := [.int v3]) ⟨hx, hb, hml, hown, hts⟩ (kX4_cellsOf l dC dI ad cA hap _ c v1 _ rfl) (va_cnB 1 hts gX3_freeCell_X4_cellsOf_n77 rfl rfl rfl hK.2.2.2.2 (hts (.initialized RX4) (by decide +kernel)) (by decide +kernel) ⟨Nat.le_of_ble_eq_true rfl, Nat.le_of_ble_eq_true rfl⟩) (hts (.static yX4_cellsOf) (by decide +kernel)) (kC_st _ _) hK hP rfl hl.1 rfl (Nat.le_of_ble_eq_true rfl) dX3_freeCell_37 ⟨Nat.zero_le _, Nat.zero_le _⟩) hS (fun H locs hP hS => ?_)
          refine lv_icmp_ge (tgt := 74) hx hb dX3_freeCell_40 (by decide) (fun e4 => ?_) (fun e4 => ?_)
          · have hM := it_p e4 hM
            refine lv_iinc (v := v2 + 1) (lv' := [(2, .int (v2 + 1)), (0, .ref (ad 1)), (1, .int v1), (3, .int v3)]) hx hb dX3_freeCell_74 hl (k := 2) rfl rfl (by decide) rfl (fun ls hl => ?_)
            refine lv_goto (tgt := 2) hx hb dX3_freeCell_77 (by decide) ?_
            exact ih2 _ _ _ _ _ hM hP hS (lv_sub hl [1, 2, 0] rfl)
          · have hM := it_n e4 hM
            refine lv_iload_n hx hb dX3_freeCell_43 rfl (lv_at hl 2 rfl) ?_
            refine lv_bipush (v := 64) hx hb dX3_freeCell_44 (by decide) ?_
            refine lv_imul hx hb dX3_freeCell_46 ?_
            refine lv_iload_n hx hb dX3_freeCell_47 rfl (lv_at hl 3 rfl) ?_
            refine lv_iload_n hx hb dX3_freeCell_48 rfl (lv_at hl 1 rfl) ?_
            refine gCi (gSN (As := [.int v1]) (rest := [.int v3, .int (v2 * 64)]) ⟨hx, hb, hml, hown, hts⟩ (kX4_cellWords l dC dI ad cA hap _ c v1 _ rfl) (va_cnB 1 hts gX3_freeCell_X4_cellWords_n58 rfl rfl rfl hK.2.1 (hts (.initialized RX4) (by decide +kernel)) (by decide +kernel) ⟨Nat.le_of_ble_eq_true rfl, Nat.le_of_ble_eq_true rfl⟩) (hts (.static yX4_cellWords) (by decide +kernel)) (kC_st _ _) hK hP rfl hl.1 rfl (Nat.le_of_ble_eq_true rfl) dX3_freeCell_49 ⟨Nat.zero_le _, Nat.zero_le _⟩) hS (fun H locs hP hS => ?_)
            refine lv_imul hx hb dX3_freeCell_52 ?_
            refine lv_iadd hx hb dX3_freeCell_53 ?_
            refine lv_istore (lv' := [(4, .int ((v2 * 64) + (v3 * (pX4_cellWords v1)))), (0, .ref (ad 1)), (1, .int v1), (2, .int v2), (3, .int v3)]) hx hb dX3_freeCell_54 hl (by decide) rfl (fun ls hl => ?_)
            refine lv_aload_n hx hb dX3_freeCell_56 rfl (lv_at hl 1 rfl) ?_
            refine lv_iload hx hb dX3_freeCell_57 (lv_at hl 0 rfl) ?_
            obtain ⟨r2, h1, hM⟩ := bd1_some sm_ne hM
            refine gCi (gV (As := [.int ((v2 * 64) + (v3 * (pX4_cellWords v1)))]) (rest := []) ⟨hx, hb, hml, hown, hts⟩ (kX3_isThing l dC dI ad cA hap _ c ((v2 * 64) + (v3 * (pX4_cellWords v1))) _ h1) (cwV 1 hts gX3_freeCell_X3_isThing rfl rfl rfl (by decide +kernel) ⟨Nat.le_of_ble_eq_true rfl, Nat.le_of_ble_eq_true rfl⟩) (kC_st _ _) hK hP (va_recv hK1 hP (ci := 3) (q0 := 1) rfl rfl) rfl hl.1 rfl (Nat.le_of_ble_eq_true rfl) dX3_freeCell_59 ⟨Nat.zero_le _, Nat.zero_le _⟩) hS (fun H locs hP hS => ?_)
            refine lv_if_ne (tgt := 68) hx hb dX3_freeCell_62 (by decide) (fun e3 => ?_) (fun e3 => ?_)
            · have hM := it_n e3 hM
              refine lv_iinc (v := v3 + 1) (lv' := [(3, .int (v3 + 1)), (4, .int ((v2 * 64) + (v3 * (pX4_cellWords v1)))), (0, .ref (ad 1)), (1, .int v1), (2, .int v2)]) hx hb dX3_freeCell_68 hl (k := 4) rfl rfl (by decide) rfl (fun ls hl => ?_)
              refine lv_goto (tgt := 35) hx hb dX3_freeCell_71 (by decide) ?_
              exact ih35 _ _ _ _ _ _ hM hP hS (lv_sub hl [2, 3, 4, 0] rfl)
            · have hM := it_p e3 hM
              refine lv_iload hx hb dX3_freeCell_65 (lv_at hl 0 rfl) ?_
              exact W.iret hx hb hr (fun t ht hW => ⟨⟨_, _, rfl, ⟨pr1 hM, rfl⟩, hPt ht hP⟩, hS.F ht⟩) hS.2.2 dX3_freeCell_67
      intro v1 v2 H locs ls hM hP hS hl
      unfold pX3_freeCell_2 at hM
      refine lv_iload_n hx hb dX3_freeCell_2 rfl (lv_at hl 2 rfl) ?_
      refine lv_aload_n hx hb dX3_freeCell_3 rfl (lv_at hl 0 rfl) ?_
      refine gget (v := .int (c.1 0 0)) hx hb hts i3 hown hK1 hP 1 rfl rfl 0 (by decide) f33 rfl rfl dX3_freeCell_4 ?_
      refine lv_icmp_ge (tgt := 80) hx hb dX3_freeCell_7 (by decide) (fun e11 => ?_) (fun e11 => ?_)
      · have hM := it_p e11 hM
        refine lv_iconst (v := (-1)) hx hb dX3_freeCell_80 (by decide) ?_
        exact W.iret hx hb hr (fun t ht hW => ⟨⟨_, _, rfl, ⟨pr1 hM, rfl⟩, hPt ht hP⟩, hS.F ht⟩) hS.2.2 dX3_freeCell_81
      · have hM := it_n e11 hM
        refine lv_aload_n hx hb dX3_freeCell_10 rfl (lv_at hl 0 rfl) ?_
        refine gget (v := .ref (ad 5)) hx hb hts i3 hown hK1 hP 1 rfl rfl 2 (by decide) f9 rfl rfl dX3_freeCell_11 ?_
        refine lv_iload_n hx hb dX3_freeCell_14 rfl (lv_at hl 2 rfl) ?_
        obtain ⟨h6, x5, hx5, hM⟩ := ldA_some sm_ne hM
        refine gald hx hb hK1 hP 5 0 rfl rfl h6 hx5 dX3_freeCell_15 ?_
        refine lv_iconst (v := 1) hx hb dX3_freeCell_16 (by decide) ?_
        refine lv_icmp_ne (tgt := 74) hx hb dX3_freeCell_17 (by decide) (fun e10 => ?_) (fun e10 => ?_)
        · have hM := it_n e10 hM
          refine lv_iinc (v := v2 + 1) (lv' := [(2, .int (v2 + 1)), (0, .ref (ad 1)), (1, .int v1)]) hx hb dX3_freeCell_74 hl (k := 2) rfl rfl (by decide) rfl (fun ls hl => ?_)
          refine lv_goto (tgt := 2) hx hb dX3_freeCell_77 (by decide) ?_
          exact ih2 _ _ _ _ _ hM hP hS (lv_sub hl [1, 2, 0] rfl)
        · have hM := it_p e10 hM
          refine lv_aload_n hx hb dX3_freeCell_20 rfl (lv_at hl 0 rfl) ?_
          refine gget (v := .ref (ad 6)) hx hb hts i3 hown hK1 hP 1 rfl rfl 3 (by decide) f15 rfl rfl dX3_freeCell_21 ?_
          refine lv_iload_n hx hb dX3_freeCell_24 rfl (lv_at hl 2 rfl) ?_
          obtain ⟨h8, x7, hx7, hM⟩ := ldA_some sm_ne hM
          refine gald hx hb hK1 hP 6 1 rfl rfl h8 hx7 dX3_freeCell_25 ?_
          refine lv_iload_n hx hb dX3_freeCell_26 rfl (lv_at hl 1 rfl) ?_
          refine lv_icmp_eq (tgt := 33) hx hb dX3_freeCell_27 (by decide) (fun e9 => ?_) (fun e9 => ?_)
          · have hM := it_p e9 hM
            refine lv_iconst (v := 0) hx hb dX3_freeCell_33 (by decide) ?_
            refine lv_istore_n (lv' := [(3, .int 0), (0, .ref (ad 1)), (1, .int v1), (2, .int v2)]) hx hb dX3_freeCell_34 rfl hl (by decide) rfl (fun ls hl => ?_)
            exact L35 _ _ _ _ _ _ _ hM hP hS (lv_sub hl [1, 2, 3, 0] rfl)
          · have hM := it_n e9 hM
            refine lv_goto (tgt := 74) hx hb dX3_freeCell_30 (by decide) ?_
            refine lv_iinc (v := v2 + 1) (lv' := [(2, .int (v2 + 1)), (0, .ref (ad 1)), (1, .int v1)]) hx hb dX3_freeCell_74 hl (k := 2) rfl rfl (by decide) rfl (fun ls hl => ?_)
            refine lv_goto (tgt := 2) hx hb dX3_freeCell_77 (by decide) ?_
            exact ih2 _ _ _ _ _ hM hP hS (lv_sub hl [1, 2, 0] rfl)
  have hl := lv_entry [.ref (ad 1), .int a1] (n := 5) (Nat.le_of_ble_eq_true rfl)
  rw [lg_entry_eq]
  generalize (lg_sl [.ref (ad 1), .int a1] ++ List.replicate (5 - (lg_sl [.ref (ad 1), .int a1]).length) Slot.unset).toArray = ls at hl ⊢
  have hl : lv_has ls 5 [(0, .ref (ad 1)), (1, .int a1)] := hl
  have hP : va_P (dC, dI) vwCl (wC ad cA c) s.heap := hP
  unfold pX3_freeCell at hM
  refine lv_iconst (v := 0) hx hb dX3_freeCell_0 (by decide) ?_
  refine lv_istore_n (lv' := [(2, .int 0), (0, .ref (ad 1)), (1, .int a1)]) hx hb dX3_freeCell_1 rfl hl (by decide) rfl (fun ls hl => ?_)
  exact L2 _ _ _ _ _ _ hM hP hS (lv_sub hl [1, 2, 0] rfl)
set_option maxHeartbeats 4000000 in
set_option maxRecDepth 100000 in
theorem kX3_placeFor (l : Launch) (dC : Nat → ClassId) (dI : Nat → Nat → Nat) (ad : Nat → Nat) (cA : Nat → ClassId) (hap : apart 17 ad) (sz : Nat) (c : HS) (a1 : Int32) (a2 : Int32) (r0 : Int32) (hM : pX3_placeFor c a1 a2 = some r0) : Met l yX3_placeFor wsX3_placeFor ({ frames := 2, cells := 0, slots := 0, locals := 45 }) (gP (dC, dI) (wC ad cA) (kC (dC, dI) cA) c sz [.ref (ad 1), .int a1, .int a2]) (gQi (dC, dI) (wC ad cA) (fA 17 ad sz) r0 c) 0 0 (fA 17 ad sz) := by
  refine Met.ofW (cc := cX3_placeFor) (maxL := 5) (ret := (some .int)) (by decide) rfl ?_
  intro p e s m args below meth cd s₁ B hml hv
  obtain ⟨rfl, rfl, hP, hK⟩ := hv
  have hx := B.exec
  have hb := B.bytes
  have hr := B.returns
  have hts := atoms_spec (ws := wsX3_placeFor) B.pre
  have hown : s.vm.findClass RX3 = some m.cls := findClass_of_methodNamed B.named
  have hlocks := B.notSynchronized
  have hK1 : va_K (dC, dI) vwCl (tC cA) s := hK.1
  have hD : ∀ c, va_D (fA 17 ad s.heap.size) (wC ad cA c) := fun c => dC_ok hap cA c _
  have hS : va_S (fA 17 ad s.heap.size) s.heap s.heap [] := va_S.rf
  have hl := lv_entry [.ref (ad 1), .int a1, .int a2] (n := 5) (Nat.le_of_ble_eq_true rfl)
  rw [lg_entry_eq]
  generalize (lg_sl [.ref (ad 1), .int a1, .int a2] ++ List.replicate (5 - (lg_sl [.ref (ad 1), .int a1, .int a2]).length) Slot.unset).toArray = ls at hl ⊢
  have hl : lv_has ls 5 [(0, .ref (ad 1)), (1, .int a1), (2, .int a2)] := hl
  have hP : va_P (dC, dI) vwCl (wC ad cA c) s.heap := hP
  unfold pX3_placeFor at hM
  refine lv_iload_n hx hb dX3_placeFor_0 rfl (lv_at hl 1 rfl) ?_
  obtain ⟨r2, h1, hM⟩ := bd1_some sm_ne hM
  refine gCi (gSN (As := [.int a1]) (rest := []) ⟨hx, hb, hml, hown, hts⟩ (kX4_classFor l dC dI ad cA hap _ c a1 _ h1) (va_cnB 1 hts gX3_placeFor_X4_classFor_n64 rfl rfl rfl hK.2.2.1 (hts (.initialized RX4) (by decide +kernel)) (by decide +kernel) ⟨Nat.le_of_ble_eq_true rfl, Nat.le_of_ble_eq_true rfl⟩) (hts (.static yX4_classFor) (by decide +kernel)) (kC_st _ _) hK hP rfl hl.1 rfl (Nat.le_of_ble_eq_true rfl) dX3_placeFor_1 ⟨Nat.zero_le _, Nat.zero_le _⟩) hS (fun H locs hP hS => ?_)
  refine lv_istore_n (lv' := [(3, .int r2), (0, .ref (ad 1)), (1, .int a1), (2, .int a2)]) hx hb dX3_placeFor_4 rfl hl (by decide) rfl (fun ls hl => ?_)
  refine lv_iload_n hx hb dX3_placeFor_5 rfl (lv_at hl 0 rfl) ?_
  refine lv_iconst (v := 5) hx hb dX3_placeFor_6 (by decide) ?_
  refine lv_icmp_ne (tgt := 20) hx hb dX3_placeFor_7 (by decide) (fun e10 => ?_) (fun e10 => ?_)
  · have hM := it_n e10 hM
    refine lv_aload_n hx hb dX3_placeFor_20 rfl (lv_at hl 1 rfl) ?_
    refine lv_iload_n hx hb dX3_placeFor_21 rfl (lv_at hl 0 rfl) ?_
    obtain ⟨r4, h3, hM⟩ := bd1_some sm_ne hM
    refine gCi (gV (As := [.int r2]) (rest := []) ⟨hx, hb, hml, hown, hts⟩ (kX3_freeCell l dC dI ad cA hap _ c r2 _ h3) (cwV 1 hts gX3_placeFor_X3_freeCell rfl rfl rfl (by decide +kernel) ⟨Nat.le_of_ble_eq_true rfl, Nat.le_of_ble_eq_true rfl⟩) (kC_st _ _) hK hP (va_recv hK1 hP (ci := 3) (q0 := 1) rfl rfl) rfl hl.1 rfl (Nat.le_of_ble_eq_true rfl) dX3_placeFor_22 ⟨Nat.zero_le _, Nat.zero_le _⟩) hS (fun H locs hP hS => ?_)
    refine lv_istore (lv' := [(4, .int r4), (3, .int r2), (0, .ref (ad 1)), (1, .int a1), (2, .int a2)]) hx hb dX3_placeFor_25 hl (by decide) rfl (fun ls hl => ?_)
    refine lv_iload hx hb dX3_placeFor_27 (lv_at hl 0 rfl) ?_
    refine lv_iconst (v := (-1)) hx hb dX3_placeFor_29 (by decide) ?_
    refine lv_icmp_ne (tgt := 42) hx hb dX3_placeFor_30 (by decide) (fun e7 => ?_) (fun e7 => ?_)
    · have hM := it_n e7 hM
      refine lv_iload hx hb dX3_placeFor_42 (lv_at hl 0 rfl) ?_
      exact W.iret hx hb hr (fun t ht hW => ⟨⟨_, _, rfl, ⟨pr1 hM, rfl⟩, hPt ht hP⟩, hS.F ht⟩) hS.2.2 dX3_placeFor_44
    · have hM := it_p e7 hM
      refine lv_aload_n hx hb dX3_placeFor_33 rfl (lv_at hl 2 rfl) ?_
      refine lv_iconst (v := 1) hx hb dX3_placeFor_34 (by decide) ?_
      refine lv_iload_n hx hb dX3_placeFor_35 rfl (lv_at hl 4 rfl) ?_
      obtain ⟨r6, h5, hM⟩ := bd1_some sm_ne hM
      refine gCi (gV (As := [.int 1, .int a2]) (rest := []) ⟨hx, hb, hml, hown, hts⟩ (kX3_freeRow l dC dI ad cA hap _ c 1 a2 _ h5) (cwV 2 hts gX3_placeFor_X3_freeRow rfl rfl rfl (by decide +kernel) ⟨Nat.le_of_ble_eq_true rfl, Nat.le_of_ble_eq_true rfl⟩) (kC_st _ _) hK hP (va_recv hK1 hP (ci := 3) (q0 := 1) rfl rfl) rfl hl.1 rfl (Nat.le_of_ble_eq_true rfl) dX3_placeFor_36 ⟨Nat.zero_le _, Nat.zero_le _⟩) hS (fun H locs hP hS => ?_)
      refine lv_goto (tgt := 44) hx hb dX3_placeFor_39 (by decide) ?_
      exact W.iret hx hb hr (fun t ht hW => ⟨⟨_, _, rfl, ⟨pr1 hM, rfl⟩, hPt ht hP⟩, hS.F ht⟩) hS.2.2 dX3_placeFor_44
  · have hM := it_p e10 hM
    refine lv_aload_n hx hb dX3_placeFor_10 rfl (lv_at hl 1 rfl) ?_
    refine lv_iload_n hx hb dX3_placeFor_11 rfl (lv_at hl 2 rfl) ?_
    refine gCi (gSN (As := [.int a1]) (rest := [.ref (ad 1)]) ⟨hx, hb, hml, hown, hts⟩ (kX4_blocksFor l dC dI ad cA hap _ c a1 _ rfl) (va_cnB 1 hts gX3_placeFor_X4_blocksFor_n67 rfl rfl rfl hK.2.2.2.1 (hts (.initialized RX4) (by decide +kernel)) (by decide +kernel) ⟨Nat.le_of_ble_eq_true rfl, Nat.le_of_ble_eq_true rfl⟩) (hts (.static yX4_blocksFor) (by decide +kernel)) (kC_st _ _) hK hP rfl hl.1 rfl (Nat.le_of_ble_eq_true rfl) dX3_placeFor_12 ⟨Nat.zero_le _, Nat.zero_le _⟩) hS (fun H locs hP hS => ?_)
    refine lv_iload_n hx hb dX3_placeFor_15 rfl (lv_at hl 3 rfl) ?_
    obtain ⟨r9, h8, hM⟩ := bd1_some sm_ne hM
    refine gCi (gV (As := [.int (pX4_blocksFor a1), .int a2]) (rest := []) ⟨hx, hb, hml, hown, hts⟩ (kX3_freeRow l dC dI ad cA hap _ c (pX4_blocksFor a1) a2 _ h8) (cwV 2 hts gX3_placeFor_X3_freeRow rfl rfl rfl (by decide +kernel) ⟨Nat.le_of_ble_eq_true rfl, Nat.le_of_ble_eq_true rfl⟩) (kC_st _ _) hK hP (va_recv hK1 hP (ci := 3) (q0 := 1) rfl rfl) rfl hl.1 rfl (Nat.le_of_ble_eq_true rfl) dX3_placeFor_16 ⟨Nat.zero_le _, Nat.zero_le _⟩) hS (fun H locs hP hS => ?_)
    exact W.iret hx hb hr (fun t ht hW => ⟨⟨_, _, rfl, ⟨pr1 hM, rfl⟩, hPt ht hP⟩, hS.F ht⟩) hS.2.2 dX3_placeFor_19
set_option maxHeartbeats 4000000 in
set_option maxRecDepth 100000 in
theorem kX0_find (l : Launch) (dC : Nat → ClassId) (dI : Nat → Nat → Nat) (ad : Nat → Nat) (cA : Nat → ClassId) (hap : apart 17 ad) (sz : Nat) (c : HS) (a1 : Int32) (c9 : HS) (hM : pX0_find c a1 = some c9) : Met l yX0_find wsX0_find ({ frames := 1, cells := 0, slots := 0, locals := 21 }) (gP (dC, dI) (wC ad cA) (kC (dC, dI) cA) c sz [.ref (ad 4), .int a1]) (gQv (dC, dI) (wC ad cA) (fA 17 ad sz) c9) 0 0 (fA 17 ad sz) := by
  refine Met.ofW (cc := cX0_find) (maxL := 2) (ret := none) (by decide) rfl ?_
  intro p e s m args below meth cd s₁ B hml hv
  obtain ⟨rfl, rfl, hP, hK⟩ := hv
  have hx := B.exec
  have hb := B.bytes
  have hr := B.returns
  have hts := atoms_spec (ws := wsX0_find) B.pre
  have hown : s.vm.findClass RX0 = some m.cls := findClass_of_methodNamed B.named
  have hlocks := B.notSynchronized
  have hK1 : va_K (dC, dI) vwCl (tC cA) s := hK.1
  have hD : ∀ c, va_D (fA 17 ad s.heap.size) (wC ad cA c) := fun c => dC_ok hap cA c _
  have hS : va_S (fA 17 ad s.heap.size) s.heap s.heap [] := va_S.rf
  have i0 : ∀ w ∈ u_ws RX0 TX0 9, w ∈ wsX0_find := by decide +kernel
  have i3 : ∀ w ∈ u_ws RX3 TX3 9, w ∈ wsX0_find := by decide +kernel
  have f9 := hts (.fieldLink RX0 9 "StickyHeap$Collector" "found" "[I") (by decide +kernel)
  have f15 := hts (.fieldLink RX0 15 "StickyHeap$Collector" "space" "LStickyHeap$Space;") (by decide +kernel)
  have f31 := hts (.fieldLink RX0 31 "StickyHeap$Collector" "foundCount" "I") (by decide +kernel)
  have f99 := hts (.fieldLink RX0 99 "StickyHeap$Space" "age" "[I") (by decide +kernel)
  have hl := lv_entry [.ref (ad 4), .int a1] (n := 2) (Nat.le_of_ble_eq_true rfl)
  rw [lg_entry_eq]
  generalize (lg_sl [.ref (ad 4), .int a1] ++ List.replicate (2 - (lg_sl [.ref (ad 4), .int a1]).length) Slot.unset).toArray = ls at hl ⊢
  have hl : lv_has ls 2 [(0, .ref (ad 4)), (1, .int a1)] := hl
  have hP : va_P (dC, dI) vwCl (wC ad cA c) s.heap := hP
  unfold pX0_find at hM
  refine lv_aload_n hx hb dX0_find_0 rfl (lv_at hl 0 rfl) ?_
  refine gget (v := .ref (ad 1)) hx hb hts i0 hown hK1 hP 4 rfl rfl 0 (by decide) f15 rfl rfl dX0_find_1 ?_
  refine lv_iload_n hx hb dX0_find_4 rfl (lv_at hl 1 rfl) ?_
  obtain ⟨r2, h1, hM⟩ := bd1_some sm_ne hM
  refine gCi (gV (As := [.int a1]) (rest := []) ⟨hx, hb, hml, hown, hts⟩ (kX3_isThing l dC dI ad cA hap _ c a1 _ h1) (cwV 1 hts gX0_find_X3_isThing rfl rfl rfl (by decide +kernel) ⟨Nat.le_of_ble_eq_true rfl, Nat.le_of_ble_eq_true rfl⟩) (kC_st _ _) hK hP (va_recv hK1 hP (ci := 3) (q0 := 1) rfl rfl) rfl hl.1 rfl (Nat.le_of_ble_eq_true rfl) dX0_find_5 ⟨Nat.zero_le _, Nat.zero_le _⟩) hS (fun H locs hP hS => ?_)
  refine lv_if_eq (tgt := 26) hx hb dX0_find_8 (by decide) (fun e12 => ?_) (fun e12 => ?_)
  · have hM := it_p e12 hM
    exact W.vret hx hb hr (fun t ht hW => ⟨⟨_, rfl, pr1 hM, hPt ht hP⟩, hS.F ht⟩) hS.2.2 dX0_find_26
  · have hM := it_n e12 hM
    refine lv_aload_n hx hb dX0_find_11 rfl (lv_at hl 0 rfl) ?_
    refine gget (v := .ref (ad 1)) hx hb hts i0 hown hK1 hP 4 rfl rfl 0 (by decide) f15 rfl rfl dX0_find_12 ?_
    refine gget (v := .ref (ad 11)) hx hb hts i3 hown hK1 hP 1 rfl rfl 8 (by decide) f99 rfl rfl dX0_find_15 ?_
    refine lv_iload_n hx hb dX0_find_18 rfl (lv_at hl 1 rfl) ?_
    refine lv_iconst (v := 2) hx hb dX0_find_19 (by decide) ?_
    refine lv_idiv hx hb dX0_find_20 (by decide) ?_
    obtain ⟨h4, x3, hx3, hM⟩ := ldA_some sm_ne hM
    refine gald hx hb hK1 hP 11 6 rfl rfl h4 hx3 dX0_find_21 ?_
    refine lv_iconst (v := 1) hx hb dX0_find_22 (by decide) ?_
    refine lv_icmp_eq (tgt := 27) hx hb dX0_find_23 (by decide) (fun e11 => ?_) (fun e11 => ?_)
    · have hM := it_p e11 hM
      refine lv_aload_n hx hb dX0_find_27 rfl (lv_at hl 0 rfl) ?_
      refine gget (v := .int (c.1 0 6)) hx hb hts i0 hown hK1 hP 4 rfl rfl 4 (by decide) f31 rfl rfl dX0_find_28 ?_
      refine lv_sipush (v := 768) hx hb dX0_find_31 (by decide) ?_
      refine lv_icmp_lt (tgt := 38) hx hb dX0_find_34 (by decide) (fun e10 => ?_) (fun e10 => ?_)
      · have hM := it_p e10 hM
        refine lv_aload_n hx hb dX0_find_38 rfl (lv_at hl 0 rfl) ?_
        refine gget (v := .ref (ad 1)) hx hb hts i0 hown hK1 hP 4 rfl rfl 0 (by decide) f15 rfl rfl dX0_find_39 ?_
        refine gget (v := .ref (ad 11)) hx hb hts i3 hown hK1 hP 1 rfl rfl 8 (by decide) f99 rfl rfl dX0_find_42 ?_
        refine lv_iload_n hx hb dX0_find_45 rfl (lv_at hl 1 rfl) ?_
        refine lv_iconst (v := 2) hx hb dX0_find_46 (by decide) ?_
        refine lv_idiv hx hb dX0_find_47 (by decide) ?_
        refine lv_iconst (v := 2) hx hb dX0_find_48 (by decide) ?_
        obtain ⟨h6, c5, hc5, hM⟩ := stA_some sm_ne hM
        refine gast (w := wC ad cA) (c := c) (c1 := c5) hx hb hK1 hP (hD c) hS 11 6 rfl rfl h6 (by rw [hc5]; rfl) dX0_find_49 (fun H locs hP hS => ?_)
        refine lv_aload_n hx hb dX0_find_50 rfl (lv_at hl 0 rfl) ?_
        refine gget (v := .ref (ad 16)) hx hb hts i0 hown hK1 hP 4 rfl rfl 3 (by decide) f9 rfl rfl dX0_find_51 ?_
        refine lv_aload_n hx hb dX0_find_54 rfl (lv_at hl 0 rfl) ?_
        refine gget (v := .int (c5.1 0 6)) hx hb hts i0 hown hK1 hP 4 rfl rfl 4 (by decide) f31 rfl rfl dX0_find_55 ?_
        refine lv_iload_n hx hb dX0_find_58 rfl (lv_at hl 1 rfl) ?_
        obtain ⟨h8, c7, hc7, hM⟩ := stA_some sm_ne hM
        refine gast (w := wC ad cA) (c := c5) (c1 := c7) hx hb hK1 hP (hD c5) hS 16 11 rfl rfl h8 (by rw [hc7]; rfl) dX0_find_59 (fun H locs hP hS => ?_)
        refine lv_aload_n hx hb dX0_find_60 rfl (lv_at hl 0 rfl) ?_
        refine lv_dup hx hb dX0_find_61 rfl ?_
        refine gget (v := .int (c7.1 0 6)) hx hb hts i0 hown hK1 hP 4 rfl rfl 4 (by decide) f31 rfl rfl dX0_find_62 ?_
        refine lv_iconst (v := 1) hx hb dX0_find_65 (by decide) ?_
        refine lv_iadd hx hb dX0_find_66 ?_
        obtain ⟨c9, hc9, hM⟩ := pfA_some hM
        refine gput (w := wC ad cA) (c := c7) (c1 := c9) (v := .int ((c7.1 0 6) + 1)) hx hb hts i0 tyX0 tyX0_ok nmX0 hown hK1 hP (hD c7) hS 4 rfl rfl 4 (by decide) f31 rfl rfl rfl rfl (Nat.le_of_ble_eq_true rfl) (by rw [hc9]; rfl) dX0_find_67 (fun H locs hP hS => ?_)
        exact W.vret hx hb hr (fun t ht hW => ⟨⟨_, rfl, pr1 hM, hPt ht hP⟩, hS.F ht⟩) hS.2.2 dX0_find_70
      · have hM := it_n e10 hM
        exact W.vret hx hb hr (fun t ht hW => ⟨⟨_, rfl, pr1 hM, hPt ht hP⟩, hS.F ht⟩) hS.2.2 dX0_find_37
    · have hM := it_n e11 hM
      exact W.vret hx hb hr (fun t ht hW => ⟨⟨_, rfl, pr1 hM, hPt ht hP⟩, hS.F ht⟩) hS.2.2 dX0_find_26
set_option maxHeartbeats 4000000 in
set_option maxRecDepth 100000 in
theorem kX3_firstBlock (l : Launch) (dC : Nat → ClassId) (dI : Nat → Nat → Nat) (ad : Nat → Nat) (cA : Nat → ClassId) (hap : apart 17 ad) (sz : Nat) (c : HS) (a1 : Int32) (r0 : Int32) (hM : pX3_firstBlock c a1 = some r0) : Met l yX3_firstBlock wsX3_firstBlock ({ frames := 0, cells := 0, slots := 0, locals := 0 }) (gP (dC, dI) (wC ad cA) (kC (dC, dI) cA) c sz [.ref (ad 1), .int a1]) (gQi (dC, dI) (wC ad cA) (fA 17 ad sz) r0 c) 0 0 (fA 17 ad sz) := by
  refine Met.ofW (cc := cX3_firstBlock) (maxL := 3) (ret := (some .int)) (by decide) rfl ?_
  intro p e s m args below meth cd s₁ B hml hv
  obtain ⟨rfl, rfl, hP, hK⟩ := hv
  have hx := B.exec
  have hb := B.bytes
  have hr := B.returns
  have hts := atoms_spec (ws := wsX3_firstBlock) B.pre
  have hown : s.vm.findClass RX3 = some m.cls := findClass_of_methodNamed B.named
  have hlocks := B.notSynchronized
  have hK1 : va_K (dC, dI) vwCl (tC cA) s := hK.1
  have hD : ∀ c, va_D (fA 17 ad s.heap.size) (wC ad cA c) := fun c => dC_ok hap cA c _
  have hS : va_S (fA 17 ad s.heap.size) s.heap s.heap [] := va_S.rf
  have i3 : ∀ w ∈ u_ws RX3 TX3 9, w ∈ wsX3_firstBlock := by decide +kernel
  have f9 := hts (.fieldLink RX3 9 "StickyHeap$Space" "sort" "[I") (by decide +kernel)
  have L2 : ∀ (n : Nat) (v2 : Int32) (H : Heap) (locs : List Loc) (ls : Array Slot), pX3_firstBlock_2 c n v2 = some r0 → va_P (dC, dI) vwCl (wC ad cA c) H → va_S (fA 17 ad s.heap.size) s.heap H locs → lv_has ls 3 [(0, .ref (ad 1)), (2, .int v2)] → W p l e (headSpec wsX3_firstBlock ({ frames := 0, cells := 0, slots := 0, locals := 0 })).room s m ([.ref (ad 1), .int a1]).toArray below meth cd H locs 0 0 (MQ below (gQi (dC, dI) (wC ad cA) (fA 17 ad s.heap.size) r0 c) ([.ref (ad 1), .int a1]).toArray s 0 0 (fA 17 ad s.heap.size)) (F0 m 2 ls []) := by
    intro n
    induction n with
    | zero =>
      intro v2 H locs ls hM
      exact absurd (Eq.symm (hM : none = some r0)) sm_ne
    | succ n2 ih2 =>
      intro v2 H locs ls hM hP hS hl
      unfold pX3_firstBlock_2 at hM
      refine lv_iload_n hx hb dX3_firstBlock_2 rfl (lv_at hl 1 rfl) ?_
      refine lv_if_le (tgt := 24) hx hb dX3_firstBlock_3 (by decide) (fun e4 => ?_) (fun e4 => ?_)
      · have hM := it_p e4 hM
        refine lv_iconst (v := 0) hx hb dX3_firstBlock_24 (by decide) ?_
        exact W.iret hx hb hr (fun t ht hW => ⟨⟨_, _, rfl, ⟨pr1 hM, rfl⟩, hPt ht hP⟩, hS.F ht⟩) hS.2.2 dX3_firstBlock_25
      · have hM := it_n e4 hM
        refine lv_aload_n hx hb dX3_firstBlock_6 rfl (lv_at hl 0 rfl) ?_
        refine gget (v := .ref (ad 5)) hx hb hts i3 hown hK1 hP 1 rfl rfl 2 (by decide) f9 rfl rfl dX3_firstBlock_7 ?_
        refine lv_iload_n hx hb dX3_firstBlock_10 rfl (lv_at hl 1 rfl) ?_
        obtain ⟨h2, x1, hx1, hM⟩ := ldA_some sm_ne hM
        refine gald hx hb hK1 hP 5 0 rfl rfl h2 hx1 dX3_firstBlock_11 ?_
        refine lv_iconst (v := 3) hx hb dX3_firstBlock_12 (by decide) ?_
        refine lv_icmp_eq (tgt := 18) hx hb dX3_firstBlock_13 (by decide) (fun e3 => ?_) (fun e3 => ?_)
        · have hM := it_p e3 hM
          refine lv_iinc (v := v2 + (-1)) (lv' := [(2, .int (v2 + (-1))), (0, .ref (ad 1))]) hx hb dX3_firstBlock_18 hl (k := 1) rfl rfl (by decide) rfl (fun ls hl => ?_)
          refine lv_goto (tgt := 2) hx hb dX3_firstBlock_21 (by decide) ?_
          exact ih2 _ _ _ _ hM hP hS (lv_sub hl [1, 0] rfl)
        · have hM := it_n e3 hM
          refine lv_iload_n hx hb dX3_firstBlock_16 rfl (lv_at hl 1 rfl) ?_
          exact W.iret hx hb hr (fun t ht hW => ⟨⟨_, _, rfl, ⟨pr1 hM, rfl⟩, hPt ht hP⟩, hS.F ht⟩) hS.2.2 dX3_firstBlock_17
  have hl := lv_entry [.ref (ad 1), .int a1] (n := 3) (Nat.le_of_ble_eq_true rfl)
  rw [lg_entry_eq]
  generalize (lg_sl [.ref (ad 1), .int a1] ++ List.replicate (3 - (lg_sl [.ref (ad 1), .int a1]).length) Slot.unset).toArray = ls at hl ⊢
  have hl : lv_has ls 3 [(0, .ref (ad 1)), (1, .int a1)] := hl
  have hP : va_P (dC, dI) vwCl (wC ad cA c) s.heap := hP
  unfold pX3_firstBlock at hM
  refine lv_iload_n hx hb dX3_firstBlock_0 rfl (lv_at hl 1 rfl) ?_
  refine lv_istore_n (lv' := [(2, .int a1), (0, .ref (ad 1)), (1, .int a1)]) hx hb dX3_firstBlock_1 rfl hl (by decide) rfl (fun ls hl => ?_)
  exact L2 _ _ _ _ _ hM hP hS (lv_sub hl [1, 0] rfl)
set_option maxHeartbeats 4000000 in
set_option maxRecDepth 100000 in
theorem kX3_thingAt (l : Launch) (dC : Nat → ClassId) (dI : Nat → Nat → Nat) (ad : Nat → Nat) (cA : Nat → ClassId) (hap : apart 17 ad) (sz : Nat) (c : HS) (a1 : Int32) (r0 : Int32) (hM : pX3_thingAt c a1 = some r0) : Met l yX3_thingAt wsX3_thingAt ({ frames := 1, cells := 0, slots := 0, locals := 22 }) (gP (dC, dI) (wC ad cA) (kC (dC, dI) cA) c sz [.ref (ad 1), .int a1]) (gQi (dC, dI) (wC ad cA) (fA 17 ad sz) r0 c) 0 0 (fA 17 ad sz) := by
  refine Met.ofW (cc := cX3_thingAt) (maxL := 4) (ret := (some .int)) (by decide) rfl ?_
  intro p e s m args below meth cd s₁ B hml hv
  obtain ⟨rfl, rfl, hP, hK⟩ := hv
  have hx := B.exec
  have hb := B.bytes
  have hr := B.returns
  have hts := atoms_spec (ws := wsX3_thingAt) B.pre
  have hown : s.vm.findClass RX3 = some m.cls := findClass_of_methodNamed B.named
  have hlocks := B.notSynchronized
  have hK1 : va_K (dC, dI) vwCl (tC cA) s := hK.1
  have hD : ∀ c, va_D (fA 17 ad s.heap.size) (wC ad cA c) := fun c => dC_ok hap cA c _
  have hS : va_S (fA 17 ad s.heap.size) s.heap s.heap [] := va_S.rf
  have i3 : ∀ w ∈ u_ws RX3 TX3 9, w ∈ wsX3_thingAt := by decide +kernel
  have f9 := hts (.fieldLink RX3 9 "StickyHeap$Space" "sort" "[I") (by decide +kernel)
  have f15 := hts (.fieldLink RX3 15 "StickyHeap$Space" "detail" "[I") (by decide +kernel)
  have f37 := hts (.fieldLink RX3 37 "StickyHeap$Space" "limit" "I") (by decide +kernel)
  have L52 : ∀ (s0 : Int32) (H : Heap) (locs : List Loc) (ls : Array Slot), pX3_thingAt_52 c s0 = some r0 → va_P (dC, dI) vwCl (wC ad cA c) H → va_S (fA 17 ad s.heap.size) s.heap H locs → lv_has ls 4 [(0, .ref (ad 1))] → W p l e (headSpec wsX3_thingAt ({ frames := 1, cells := 0, slots := 0, locals := 22 })).room s m ([.ref (ad 1), .int a1]).toArray below meth cd H locs 0 0 (MQ below (gQi (dC, dI) (wC ad cA) (fA 17 ad s.heap.size) r0 c) ([.ref (ad 1), .int a1]).toArray s 0 0 (fA 17 ad s.heap.size)) (F0 m 52 ls [.int s0]) := by
    intro s0 H locs ls hM hP hS hl
    unfold pX3_thingAt_52 at hM
    refine lv_istore_n (lv' := [(3, .int s0), (0, .ref (ad 1))]) hx hb dX3_thingAt_52 rfl hl (by decide) rfl (fun ls hl => ?_)
    refine lv_aload_n hx hb dX3_thingAt_53 rfl (lv_at hl 1 rfl) ?_
    refine lv_iload_n hx hb dX3_thingAt_54 rfl (lv_at hl 0 rfl) ?_
    obtain ⟨r2, h1, hM⟩ := bd1_some sm_ne hM
    refine gCi (gV (As := [.int s0]) (rest := []) ⟨hx, hb, hml, hown, hts⟩ (kX3_isThing l dC dI ad cA hap _ c s0 _ h1) (cwV 1 hts gX3_thingAt_X3_isThing rfl rfl rfl (by decide +kernel) ⟨Nat.le_of_ble_eq_true rfl, Nat.le_of_ble_eq_true rfl⟩) (kC_st _ _) hK hP (va_recv hK1 hP (ci := 3) (q0 := 1) rfl rfl) rfl hl.1 rfl (Nat.le_of_ble_eq_true rfl) dX3_thingAt_55 ⟨Nat.zero_le _, Nat.zero_le _⟩) hS (fun H locs hP hS => ?_)
    refine lv_if_eq (tgt := 65) hx hb dX3_thingAt_58 (by decide) (fun e3 => ?_) (fun e3 => ?_)
    · have hM := it_p e3 hM
      refine lv_iconst (v := (-1)) hx hb dX3_thingAt_65 (by decide) ?_
      exact W.iret hx hb hr (fun t ht hW => ⟨⟨_, _, rfl, ⟨pr1 hM, rfl⟩, hPt ht hP⟩, hS.F ht⟩) hS.2.2 dX3_thingAt_66
    · have hM := it_n e3 hM
      refine lv_iload_n hx hb dX3_thingAt_61 rfl (lv_at hl 0 rfl) ?_
      refine lv_goto (tgt := 66) hx hb dX3_thingAt_62 (by decide) ?_
      exact W.iret hx hb hr (fun t ht hW => ⟨⟨_, _, rfl, ⟨pr1 hM, rfl⟩, hPt ht hP⟩, hS.F ht⟩) hS.2.2 dX3_thingAt_66
  have hl := lv_entry [.ref (ad 1), .int a1] (n := 4) (Nat.le_of_ble_eq_true rfl)
  rw [lg_entry_eq]
  generalize (lg_sl [.ref (ad 1), .int a1] ++ List.replicate (4 - (lg_sl [.ref (ad 1), .int a1]).length) Slot.unset).toArray = ls at hl ⊢
  have hl : lv_has ls 4 [(0, .ref (ad 1)), (1, .int a1)] := hl
  have hP : va_P (dC, dI) vwCl (wC ad cA c) s.heap := hP
  unfold pX3_thingAt at hM
  refine lv_iload_n hx hb dX3_thingAt_0 rfl (lv_at hl 1 rfl) ?_
  refine lv_if_lt (tgt := 12) hx hb dX3_thingAt_1 (by decide) (fun e12 => ?_) (fun e12 => ?_)
  · have hM := it_p e12 hM
    refine lv_iconst (v := (-1)) hx hb dX3_thingAt_12 (by decide) ?_
    exact W.iret hx hb hr (fun t ht hW => ⟨⟨_, _, rfl, ⟨pr1 hM, rfl⟩, hPt ht hP⟩, hS.F ht⟩) hS.2.2 dX3_thingAt_13
  · have hM := it_n e12 hM
    refine lv_iload_n hx hb dX3_thingAt_4 rfl (lv_at hl 1 rfl) ?_
    refine lv_aload_n hx hb dX3_thingAt_5 rfl (lv_at hl 0 rfl) ?_
    refine gget (v := .int (c.1 0 1)) hx hb hts i3 hown hK1 hP 1 rfl rfl 1 (by decide) f37 rfl rfl dX3_thingAt_6 ?_
    refine lv_icmp_lt (tgt := 14) hx hb dX3_thingAt_9 (by decide) (fun e11 => ?_) (fun e11 => ?_)
    · have hM := it_p e11 hM
      refine lv_iload_n hx hb dX3_thingAt_14 rfl (lv_at hl 1 rfl) ?_
      refine lv_bipush (v := 64) hx hb dX3_thingAt_15 (by decide) ?_
      refine lv_idiv hx hb dX3_thingAt_17 (by decide) ?_
      refine lv_istore_n (lv' := [(2, .int (a1 / 64)), (0, .ref (ad 1)), (1, .int a1)]) hx hb dX3_thingAt_18 rfl hl (by decide) rfl (fun ls hl => ?_)
      refine lv_aload_n hx hb dX3_thingAt_19 rfl (lv_at hl 1 rfl) ?_
      refine gget (v := .ref (ad 5)) hx hb hts i3 hown hK1 hP 1 rfl rfl 2 (by decide) f9 rfl rfl dX3_thingAt_20 ?_
      refine lv_iload_n hx hb dX3_thingAt_23 rfl (lv_at hl 0 rfl) ?_
      obtain ⟨h5, x4, hx4, hM⟩ := ldA_some sm_ne hM
      refine gald hx hb hK1 hP 5 0 rfl rfl h5 hx4 dX3_thingAt_24 ?_
      refine lv_iconst (v := 1) hx hb dX3_thingAt_25 (by decide) ?_
      refine lv_icmp_ne (tgt := 44) hx hb dX3_thingAt_26 (by decide) (fun e10 => ?_) (fun e10 => ?_)
      · have hM := it_n e10 hM
        refine lv_aload_n hx hb dX3_thingAt_44 rfl (lv_at hl 1 rfl) ?_
        refine lv_iload_n hx hb dX3_thingAt_45 rfl (lv_at hl 0 rfl) ?_
        obtain ⟨r7, h6, hM⟩ := bd1_some sm_ne hM
        refine gCi (gV (As := [.int (a1 / 64)]) (rest := []) ⟨hx, hb, hml, hown, hts⟩ (kX3_firstBlock l dC dI ad cA hap _ c (a1 / 64) _ h6) (cwV 1 hts gX3_thingAt_X3_firstBlock rfl rfl rfl (by decide +kernel) ⟨Nat.le_of_ble_eq_true rfl, Nat.le_of_ble_eq_true rfl⟩) (kC_st _ _) hK hP (va_recv hK1 hP (ci := 3) (q0 := 1) rfl rfl) rfl hl.1 rfl (Nat.le_of_ble_eq_true rfl) dX3_thingAt_46 ⟨Nat.zero_le _, Nat.zero_le _⟩) hS (fun H locs hP hS => ?_)
        refine lv_bipush (v := 64) hx hb dX3_thingAt_49 (by decide) ?_
        refine lv_imul hx hb dX3_thingAt_51 ?_
        exact L52 _ _ _ _ hM hP hS (lv_sub hl [1] rfl)
      · have hM := it_p e10 hM
        refine lv_iload_n hx hb dX3_thingAt_29 rfl (lv_at hl 2 rfl) ?_
        refine lv_aload_n hx hb dX3_thingAt_30 rfl (lv_at hl 1 rfl) ?_
        refine gget (v := .ref (ad 6)) hx hb hts i3 hown hK1 hP 1 rfl rfl 3 (by decide) f15 rfl rfl dX3_thingAt_31 ?_
        refine lv_iload_n hx hb dX3_thingAt_34 rfl (lv_at hl 0 rfl) ?_
        obtain ⟨h9, x8, hx8, hM⟩ := ldA_some sm_ne hM
        refine gald hx hb hK1 hP 6 1 rfl rfl h9 hx8 dX3_thingAt_35 ?_
        refine gCi (gSN (As := [.int x8]) (rest := [.int a1]) ⟨hx, hb, hml, hown, hts⟩ (kX4_cellWords l dC dI ad cA hap _ c x8 _ rfl) (va_cnB 1 hts gX3_thingAt_X4_cellWords_n58 rfl rfl rfl hK.2.1 (hts (.initialized RX4) (by decide +kernel)) (by decide +kernel) ⟨Nat.le_of_ble_eq_true rfl, Nat.le_of_ble_eq_true rfl⟩) (hts (.static yX4_cellWords) (by decide +kernel)) (kC_st _ _) hK hP rfl hl.1 rfl (Nat.le_of_ble_eq_true rfl) dX3_thingAt_36 ⟨Nat.zero_le _, Nat.zero_le _⟩) hS (fun H locs hP hS => ?_)
        refine lv_ineg hx hb dX3_thingAt_39 ?_
        refine lv_iand hx hb dX3_thingAt_40 ?_
        refine lv_goto (tgt := 52) hx hb dX3_thingAt_41 (by decide) ?_
        exact L52 _ _ _ _ hM hP hS (lv_sub hl [1] rfl)
    · have hM := it_n e11 hM
      refine lv_iconst (v := (-1)) hx hb dX3_thingAt_12 (by decide) ?_
      exact W.iret hx hb hr (fun t ht hW => ⟨⟨_, _, rfl, ⟨pr1 hM, rfl⟩, hPt ht hP⟩, hS.F ht⟩) hS.2.2 dX3_thingAt_13
set_option maxHeartbeats 4000000 in
set_option maxRecDepth 100000 in
theorem kX0_findHeld (l : Launch) (dC : Nat → ClassId) (dI : Nat → Nat → Nat) (ad : Nat → Nat) (cA : Nat → ClassId) (hap : apart 17 ad) (sz : Nat) (c : HS) (c9 : HS) (hM : pX0_findHeld c = some c9) : Met l yX0_findHeld wsX0_findHeld ({ frames := 2, cells := 0, slots := 0, locals := 45 }) (gP (dC, dI) (wC ad cA) (kC (dC, dI) cA) c sz [.ref (ad 4)]) (gQv (dC, dI) (wC ad cA) (fA 17 ad sz) c9) 0 0 (fA 17 ad sz) := by
  refine Met.ofW (cc := cX0_findHeld) (maxL := 2) (ret := none) (by decide) rfl ?_
  intro p e s m args below meth cd s₁ B hml hv
  obtain ⟨rfl, rfl, hP, hK⟩ := hv
  have hx := B.exec
  have hb := B.bytes
  have hr := B.returns
  have hts := atoms_spec (ws := wsX0_findHeld) B.pre
  have hown : s.vm.findClass RX0 = some m.cls := findClass_of_methodNamed B.named
  have hlocks := B.notSynchronized
  have hK1 : va_K (dC, dI) vwCl (tC cA) s := hK.1
  have hD : ∀ c, va_D (fA 17 ad s.heap.size) (wC ad cA c) := fun c => dC_ok hap cA c _
  have hS : va_S (fA 17 ad s.heap.size) s.heap s.heap [] := va_S.rf
  have i0 : ∀ w ∈ u_ws RX0 TX0 9, w ∈ wsX0_findHeld := by decide +kernel
  have i1 : ∀ w ∈ u_ws RX1 TX1 3, w ∈ wsX0_findHeld := by decide +kernel
  have f15 := hts (.fieldLink RX0 15 "StickyHeap$Collector" "space" "LStickyHeap$Space;") (by decide +kernel)
  have f23 := hts (.fieldLink RX0 23 "StickyHeap$Collector" "holders" "LStickyHeap$Holders;") (by decide +kernel)
  have f55 := hts (.fieldLink RX0 55 "StickyHeap$Holders" "roots" "[I") (by decide +kernel)
  have f64 := hts (.fieldLink RX0 64 "StickyHeap$Holders" "height" "I") (by decide +kernel)
  have f67 := hts (.fieldLink RX0 67 "StickyHeap$Holders" "stack" "[I") (by decide +kernel)
  have L2 : ∀ (n : Nat) (c : HS) (v1 : Int32) (H : Heap) (locs : List Loc) (ls : Array Slot), pX0_findHeld_2 n c v1 = some c9 → va_P (dC, dI) vwCl (wC ad cA c) H → va_S (fA 17 ad s.heap.size) s.heap H locs → lv_has ls 2 [(0, .ref (ad 4)), (1, .int v1)] → W p l e (headSpec wsX0_findHeld ({ frames := 2, cells := 0, slots := 0, locals := 45 })).room s m ([.ref (ad 4)]).toArray below meth cd H locs 0 0 (MQ below (gQv (dC, dI) (wC ad cA) (fA 17 ad s.heap.size) c9) ([.ref (ad 4)]).toArray s 0 0 (fA 17 ad s.heap.size)) (F0 m 2 ls []) := by
    intro n
    induction n with
    | zero =>
      intro c v1 H locs ls hM
      exact absurd (Eq.symm (hM : none = some c9)) sm_ne
    | succ n2 ih2 =>
      have L29 : ∀ (n : Nat) (c : HS) (v1 : Int32) (H : Heap) (locs : List Loc) (ls : Array Slot), pX0_findHeld_29 n c v1 = some c9 → va_P (dC, dI) vwCl (wC ad cA c) H → va_S (fA 17 ad s.heap.size) s.heap H locs → lv_has ls 2 [(0, .ref (ad 4)), (1, .int v1)] → W p l e (headSpec wsX0_findHeld ({ frames := 2, cells := 0, slots := 0, locals := 45 })).room s m ([.ref (ad 4)]).toArray below meth cd H locs 0 0 (MQ below (gQv (dC, dI) (wC ad cA) (fA 17 ad s.heap.size) c9) ([.ref (ad 4)]).toArray s 0 0 (fA 17 ad s.heap.size)) (F0 m 29 ls []) := by
        intro n
        induction n with
        | zero =>
          intro c v1 H locs ls hM
          exact absurd (Eq.symm (hM : none = some c9)) sm_ne
        | succ n29 ih29 =>
          intro c v1 H locs ls hM hP hS hl
          unfold pX0_findHeld_29 at hM
          refine lv_iload_n hx hb dX0_findHeld_29 rfl (lv_at hl 1 rfl) ?_
          refine lv_aload_n hx hb dX0_findHeld_30 rfl (lv_at hl 0 rfl) ?_
          refine gget (v := .ref (ad 3)) hx hb hts i0 hown hK1 hP 4 rfl rfl 2 (by decide) f23 rfl rfl dX0_findHeld_31 ?_
          refine gget (v := .int (c.1 0 5)) hx hb hts i1 hown hK1 hP 3 rfl rfl 2 (by decide) f64 rfl rfl dX0_findHeld_34 ?_
          refine lv_icmp_ge (tgt := 66) hx hb dX0_findHeld_37 (by decide) (fun e7 => ?_) (fun e7 => ?_)
          · have hM := it_p e7 hM
            exact W.vret hx hb hr (fun t ht hW => ⟨⟨_, rfl, pr1 hM, hPt ht hP⟩, hS.F ht⟩) hS.2.2 dX0_findHeld_66
          · have hM := it_n e7 hM
            refine lv_aload_n hx hb dX0_findHeld_40 rfl (lv_at hl 0 rfl) ?_
            refine lv_aload_n hx hb dX0_findHeld_41 rfl (lv_at hl 0 rfl) ?_
            refine gget (v := .ref (ad 1)) hx hb hts i0 hown hK1 hP 4 rfl rfl 0 (by decide) f15 rfl rfl dX0_findHeld_42 ?_
            refine lv_aload_n hx hb dX0_findHeld_45 rfl (lv_at hl 0 rfl) ?_
            refine gget (v := .ref (ad 3)) hx hb hts i0 hown hK1 hP 4 rfl rfl 2 (by decide) f23 rfl rfl dX0_findHeld_46 ?_
            refine gget (v := .ref (ad 15)) hx hb hts i1 hown hK1 hP 3 rfl rfl 1 (by decide) f67 rfl rfl dX0_findHeld_49 ?_
            refine lv_iload_n hx hb dX0_findHeld_52 rfl (lv_at hl 1 rfl) ?_
            obtain ⟨h2, x1, hx1, hM⟩ := ldA_some sm_ne hM
            refine gald hx hb hK1 hP 15 10 rfl rfl h2 hx1 dX0_findHeld_53 ?_
            obtain ⟨r4, h3, hM⟩ := bd1_some sm_ne hM
            refine gCi (gV (As := [.int x1]) (rest := [.ref (ad 4)]) ⟨hx, hb, hml, hown, hts⟩ (kX3_thingAt l dC dI ad cA hap _ c x1 _ h3) (cwV 1 hts gX0_findHeld_X3_thingAt rfl rfl rfl (by decide +kernel) ⟨Nat.le_of_ble_eq_true rfl, Nat.le_of_ble_eq_true rfl⟩) (kC_st _ _) hK hP (va_recv hK1 hP (ci := 3) (q0 := 1) rfl rfl) rfl hl.1 rfl (Nat.le_of_ble_eq_true rfl) dX0_findHeld_54 ⟨Nat.zero_le _, Nat.zero_le _⟩) hS (fun H locs hP hS => ?_)
            obtain ⟨c6, h5, hM⟩ := bd1_some sm_ne hM
            refine gCv (gV (As := [.int r4]) (rest := []) ⟨hx, hb, hml, hown, hts⟩ (kX0_find l dC dI ad cA hap _ c r4 _ h5) (cwV 1 hts gX0_findHeld_X0_find rfl rfl rfl (by decide +kernel) ⟨Nat.le_of_ble_eq_true rfl, Nat.le_of_ble_eq_true rfl⟩) (kC_st _ _) hK hP (va_recv hK1 hP (ci := 0) (q0 := 4) rfl rfl) rfl hl.1 rfl (Nat.le_of_ble_eq_true rfl) dX0_findHeld_57 ⟨Nat.zero_le _, Nat.zero_le _⟩) hS (fun H locs hP hS => ?_)
            refine lv_iinc (v := v1 + 1) (lv' := [(1, .int (v1 + 1)), (0, .ref (ad 4))]) hx hb dX0_findHeld_60 hl (k := 1) rfl rfl (by decide) rfl (fun ls hl => ?_)
            refine lv_goto (tgt := 29) hx hb dX0_findHeld_63 (by decide) ?_
            exact ih29 _ _ _ _ _ hM hP hS (lv_sub hl [1, 0] rfl)
      intro c v1 H locs ls hM hP hS hl
      unfold pX0_findHeld_2 at hM
      refine lv_iload_n hx hb dX0_findHeld_2 rfl (lv_at hl 1 rfl) ?_
      refine lv_bipush (v := 10) hx hb dX0_findHeld_3 (by decide) ?_
      refine lv_icmp_ge (tgt := 27) hx hb dX0_findHeld_5 (by decide) (fun e12 => ?_) (fun e12 => ?_)
      · have hM := it_p e12 hM
        refine lv_iconst (v := 0) hx hb dX0_findHeld_27 (by decide) ?_
        refine lv_istore_n (lv' := [(1, .int 0), (0, .ref (ad 4))]) hx hb dX0_findHeld_28 rfl hl (by decide) rfl (fun ls hl => ?_)
        exact L29 _ _ _ _ _ _ hM hP hS (lv_sub hl [1, 0] rfl)
      · have hM := it_n e12 hM
        refine lv_aload_n hx hb dX0_findHeld_8 rfl (lv_at hl 0 rfl) ?_
        refine lv_aload_n hx hb dX0_findHeld_9 rfl (lv_at hl 0 rfl) ?_
        refine gget (v := .ref (ad 3)) hx hb hts i0 hown hK1 hP 4 rfl rfl 2 (by decide) f23 rfl rfl dX0_findHeld_10 ?_
        refine gget (v := .ref (ad 14)) hx hb hts i1 hown hK1 hP 3 rfl rfl 0 (by decide) f55 rfl rfl dX0_findHeld_13 ?_
        refine lv_iload_n hx hb dX0_findHeld_16 rfl (lv_at hl 1 rfl) ?_
        obtain ⟨h9, x8, hx8, hM⟩ := ldA_some sm_ne hM
        refine gald hx hb hK1 hP 14 9 rfl rfl h9 hx8 dX0_findHeld_17 ?_
        obtain ⟨c11, h10, hM⟩ := bd1_some sm_ne hM
        refine gCv (gV (As := [.int x8]) (rest := []) ⟨hx, hb, hml, hown, hts⟩ (kX0_find l dC dI ad cA hap _ c x8 _ h10) (cwV 1 hts gX0_findHeld_X0_find rfl rfl rfl (by decide +kernel) ⟨Nat.le_of_ble_eq_true rfl, Nat.le_of_ble_eq_true rfl⟩) (kC_st _ _) hK hP (va_recv hK1 hP (ci := 0) (q0 := 4) rfl rfl) rfl hl.1 rfl (Nat.le_of_ble_eq_true rfl) dX0_findHeld_18 ⟨Nat.zero_le _, Nat.zero_le _⟩) hS (fun H locs hP hS => ?_)
        refine lv_iinc (v := v1 + 1) (lv' := [(1, .int (v1 + 1)), (0, .ref (ad 4))]) hx hb dX0_findHeld_21 hl (k := 1) rfl rfl (by decide) rfl (fun ls hl => ?_)
        refine lv_goto (tgt := 2) hx hb dX0_findHeld_24 (by decide) ?_
        exact ih2 _ _ _ _ _ hM hP hS (lv_sub hl [1, 0] rfl)
  have hl := lv_entry [.ref (ad 4)] (n := 2) (Nat.le_of_ble_eq_true rfl)
  rw [lg_entry_eq]
  generalize (lg_sl [.ref (ad 4)] ++ List.replicate (2 - (lg_sl [.ref (ad 4)]).length) Slot.unset).toArray = ls at hl ⊢
  have hl : lv_has ls 2 [(0, .ref (ad 4))] := hl
  have hP : va_P (dC, dI) vwCl (wC ad cA c) s.heap := hP
  unfold pX0_findHeld at hM
  refine lv_iconst (v := 0) hx hb dX0_findHeld_0 (by decide) ?_
  refine lv_istore_n (lv' := [(1, .int 0), (0, .ref (ad 4))]) hx hb dX0_findHeld_1 rfl hl (by decide) rfl (fun ls hl => ?_)
  exact L2 _ _ _ _ _ _ hM hP hS (lv_sub hl [1, 0] rfl)
set_option maxHeartbeats 4000000 in
set_option maxRecDepth 100000 in
theorem kX3_ageOf (l : Launch) (dC : Nat → ClassId) (dI : Nat → Nat → Nat) (ad : Nat → Nat) (cA : Nat → ClassId) (hap : apart 17 ad) (sz : Nat) (c : HS) (a1 : Int32) (r0 : Int32) (hM : pX3_ageOf c a1 = some r0) : Met l yX3_ageOf wsX3_ageOf ({ frames := 1, cells := 0, slots := 0, locals := 21 }) (gP (dC, dI) (wC ad cA) (kC (dC, dI) cA) c sz [.ref (ad 1), .int a1]) (gQi (dC, dI) (wC ad cA) (fA 17 ad sz) r0 c) 0 0 (fA 17 ad sz) := by
  refine Met.ofW (cc := cX3_ageOf) (maxL := 2) (ret := (some .int)) (by decide) rfl ?_
  intro p e s m args below meth cd s₁ B hml hv
  obtain ⟨rfl, rfl, hP, hK⟩ := hv
  have hx := B.exec
  have hb := B.bytes
  have hr := B.returns
  have hts := atoms_spec (ws := wsX3_ageOf) B.pre
  have hown : s.vm.findClass RX3 = some m.cls := findClass_of_methodNamed B.named
  have hlocks := B.notSynchronized
  have hK1 : va_K (dC, dI) vwCl (tC cA) s := hK.1
  have hD : ∀ c, va_D (fA 17 ad s.heap.size) (wC ad cA c) := fun c => dC_ok hap cA c _
  have hS : va_S (fA 17 ad s.heap.size) s.heap s.heap [] := va_S.rf
  have i3 : ∀ w ∈ u_ws RX3 TX3 9, w ∈ wsX3_ageOf := by decide +kernel
  have f30 := hts (.fieldLink RX3 30 "StickyHeap$Space" "age" "[I") (by decide +kernel)
  have hl := lv_entry [.ref (ad 1), .int a1] (n := 2) (Nat.le_of_ble_eq_true rfl)
  rw [lg_entry_eq]
  generalize (lg_sl [.ref (ad 1), .int a1] ++ List.replicate (2 - (lg_sl [.ref (ad 1), .int a1]).length) Slot.unset).toArray = ls at hl ⊢
  have hl : lv_has ls 2 [(0, .ref (ad 1)), (1, .int a1)] := hl
  have hP : va_P (dC, dI) vwCl (wC ad cA c) s.heap := hP
  unfold pX3_ageOf at hM
  refine lv_aload_n hx hb dX3_ageOf_0 rfl (lv_at hl 0 rfl) ?_
  refine lv_iload_n hx hb dX3_ageOf_1 rfl (lv_at hl 1 rfl) ?_
  obtain ⟨r2, h1, hM⟩ := bd1_some sm_ne hM
  refine gCi (gV (As := [.int a1]) (rest := []) ⟨hx, hb, hml, hown, hts⟩ (kX3_isThing l dC dI ad cA hap _ c a1 _ h1) (cwV 1 hts gX3_ageOf_X3_isThing rfl rfl rfl (by decide +kernel) ⟨Nat.le_of_ble_eq_true rfl, Nat.le_of_ble_eq_true rfl⟩) (kC_st _ _) hK hP (va_recv hK1 hP (ci := 3) (q0 := 1) rfl rfl) rfl hl.1 rfl (Nat.le_of_ble_eq_true rfl) dX3_ageOf_2 ⟨Nat.zero_le _, Nat.zero_le _⟩) hS (fun H locs hP hS => ?_)
  refine lv_if_eq (tgt := 19) hx hb dX3_ageOf_5 (by decide) (fun e5 => ?_) (fun e5 => ?_)
  · have hM := it_p e5 hM
    refine lv_iconst (v := 0) hx hb dX3_ageOf_19 (by decide) ?_
    exact W.iret hx hb hr (fun t ht hW => ⟨⟨_, _, rfl, ⟨pr1 hM, rfl⟩, hPt ht hP⟩, hS.F ht⟩) hS.2.2 dX3_ageOf_20
  · have hM := it_n e5 hM
    refine lv_aload_n hx hb dX3_ageOf_8 rfl (lv_at hl 0 rfl) ?_
    refine gget (v := .ref (ad 11)) hx hb hts i3 hown hK1 hP 1 rfl rfl 8 (by decide) f30 rfl rfl dX3_ageOf_9 ?_
    refine lv_iload_n hx hb dX3_ageOf_12 rfl (lv_at hl 1 rfl) ?_
    refine lv_iconst (v := 2) hx hb dX3_ageOf_13 (by decide) ?_
    refine lv_idiv hx hb dX3_ageOf_14 (by decide) ?_
    obtain ⟨h4, x3, hx3, hM⟩ := ldA_some sm_ne hM
    refine gald hx hb hK1 hP 11 6 rfl rfl h4 hx3 dX3_ageOf_15 ?_
    refine lv_goto (tgt := 20) hx hb dX3_ageOf_16 (by decide) ?_
    exact W.iret hx hb hr (fun t ht hW => ⟨⟨_, _, rfl, ⟨pr1 hM, rfl⟩, hPt ht hP⟩, hS.F ht⟩) hS.2.2 dX3_ageOf_20
set_option maxHeartbeats 4000000 in
set_option maxRecDepth 100000 in
theorem kX3_referencesOf (l : Launch) (dC : Nat → ClassId) (dI : Nat → Nat → Nat) (ad : Nat → Nat) (cA : Nat → ClassId) (hap : apart 17 ad) (sz : Nat) (c : HS) (a1 : Int32) (r0 : Int32) (hM : pX3_referencesOf c a1 = some r0) : Met l yX3_referencesOf wsX3_referencesOf ({ frames := 1, cells := 0, slots := 0, locals := 21 }) (gP (dC, dI) (wC ad cA) (kC (dC, dI) cA) c sz [.ref (ad 1), .int a1]) (gQi (dC, dI) (wC ad cA) (fA 17 ad sz) r0 c) 0 0 (fA 17 ad sz) := by
  refine Met.ofW (cc := cX3_referencesOf) (maxL := 2) (ret := (some .int)) (by decide) rfl ?_
  intro p e s m args below meth cd s₁ B hml hv
  obtain ⟨rfl, rfl, hP, hK⟩ := hv
  have hx := B.exec
  have hb := B.bytes
  have hr := B.returns
  have hts := atoms_spec (ws := wsX3_referencesOf) B.pre
  have hown : s.vm.findClass RX3 = some m.cls := findClass_of_methodNamed B.named
  have hlocks := B.notSynchronized
  have hK1 : va_K (dC, dI) vwCl (tC cA) s := hK.1
  have hD : ∀ c, va_D (fA 17 ad s.heap.size) (wC ad cA c) := fun c => dC_ok hap cA c _
  have hS : va_S (fA 17 ad s.heap.size) s.heap s.heap [] := va_S.rf
  have i3 : ∀ w ∈ u_ws RX3 TX3 9, w ∈ wsX3_referencesOf := by decide +kernel
  have f24 := hts (.fieldLink RX3 24 "StickyHeap$Space" "references" "[I") (by decide +kernel)
  have hl := lv_entry [.ref (ad 1), .int a1] (n := 2) (Nat.le_of_ble_eq_true rfl)
  rw [lg_entry_eq]
  generalize (lg_sl [.ref (ad 1), .int a1] ++ List.replicate (2 - (lg_sl [.ref (ad 1), .int a1]).length) Slot.unset).toArray = ls at hl ⊢
  have hl : lv_has ls 2 [(0, .ref (ad 1)), (1, .int a1)] := hl
  have hP : va_P (dC, dI) vwCl (wC ad cA c) s.heap := hP
  unfold pX3_referencesOf at hM
  refine lv_aload_n hx hb dX3_referencesOf_0 rfl (lv_at hl 0 rfl) ?_
  refine lv_iload_n hx hb dX3_referencesOf_1 rfl (lv_at hl 1 rfl) ?_
  obtain ⟨r2, h1, hM⟩ := bd1_some sm_ne hM
  refine gCi (gV (As := [.int a1]) (rest := []) ⟨hx, hb, hml, hown, hts⟩ (kX3_isThing l dC dI ad cA hap _ c a1 _ h1) (cwV 1 hts gX3_referencesOf_X3_isThing rfl rfl rfl (by decide +kernel) ⟨Nat.le_of_ble_eq_true rfl, Nat.le_of_ble_eq_true rfl⟩) (kC_st _ _) hK hP (va_recv hK1 hP (ci := 3) (q0 := 1) rfl rfl) rfl hl.1 rfl (Nat.le_of_ble_eq_true rfl) dX3_referencesOf_2 ⟨Nat.zero_le _, Nat.zero_le _⟩) hS (fun H locs hP hS => ?_)
  refine lv_if_eq (tgt := 19) hx hb dX3_referencesOf_5 (by decide) (fun e5 => ?_) (fun e5 => ?_)
  · have hM := it_p e5 hM
    refine lv_iconst (v := 0) hx hb dX3_referencesOf_19 (by decide) ?_
    exact W.iret hx hb hr (fun t ht hW => ⟨⟨_, _, rfl, ⟨pr1 hM, rfl⟩, hPt ht hP⟩, hS.F ht⟩) hS.2.2 dX3_referencesOf_20
  · have hM := it_n e5 hM
    refine lv_aload_n hx hb dX3_referencesOf_8 rfl (lv_at hl 0 rfl) ?_
    refine gget (v := .ref (ad 9)) hx hb hts i3 hown hK1 hP 1 rfl rfl 6 (by decide) f24 rfl rfl dX3_referencesOf_9 ?_
    refine lv_iload_n hx hb dX3_referencesOf_12 rfl (lv_at hl 1 rfl) ?_
    refine lv_iconst (v := 2) hx hb dX3_referencesOf_13 (by decide) ?_
    refine lv_idiv hx hb dX3_referencesOf_14 (by decide) ?_
    obtain ⟨h4, x3, hx3, hM⟩ := ldA_some sm_ne hM
    refine gald hx hb hK1 hP 9 4 rfl rfl h4 hx3 dX3_referencesOf_15 ?_
    refine lv_goto (tgt := 20) hx hb dX3_referencesOf_16 (by decide) ?_
    exact W.iret hx hb hr (fun t ht hW => ⟨⟨_, _, rfl, ⟨pr1 hM, rfl⟩, hPt ht hP⟩, hS.F ht⟩) hS.2.2 dX3_referencesOf_20
set_option maxHeartbeats 4000000 in
set_option maxRecDepth 100000 in
theorem kX2_touchesDirty (l : Launch) (dC : Nat → ClassId) (dI : Nat → Nat → Nat) (ad : Nat → Nat) (cA : Nat → ClassId) (hap : apart 17 ad) (sz : Nat) (c : HS) (a1 : Int32) (a2 : Int32) (r0 : Int32) (hM : pX2_touchesDirty c a1 a2 = some r0) : Met l yX2_touchesDirty wsX2_touchesDirty ({ frames := 0, cells := 0, slots := 0, locals := 0 }) (gP (dC, dI) (wC ad cA) (kC (dC, dI) cA) c sz [.ref (ad 2), .int a1, .int a2]) (gQi (dC, dI) (wC ad cA) (fA 17 ad sz) r0 c) 0 0 (fA 17 ad sz) := by
  refine Met.ofW (cc := cX2_touchesDirty) (maxL := 4) (ret := (some .boolean)) (by decide) rfl ?_
  intro p e s m args below meth cd s₁ B hml hv
  obtain ⟨rfl, rfl, hP, hK⟩ := hv
  have hx := B.exec
  have hb := B.bytes
  have hr := B.returns
  have hts := atoms_spec (ws := wsX2_touchesDirty) B.pre
  have hown : s.vm.findClass RX2 = some m.cls := findClass_of_methodNamed B.named
  have hlocks := B.notSynchronized
  have hK1 : va_K (dC, dI) vwCl (tC cA) s := hK.1
  have hD : ∀ c, va_D (fA 17 ad s.heap.size) (wC ad cA c) := fun c => dC_ok hap cA c _
  have hS : va_S (fA 17 ad s.heap.size) s.heap s.heap [] := va_S.rf
  have i2 : ∀ w ∈ u_ws RX2 TX2 5, w ∈ wsX2_touchesDirty := by decide +kernel
  have f19 := hts (.fieldLink RX2 19 "StickyHeap$Memory" "dirty" "[I") (by decide +kernel)
  have L2 : ∀ (n : Nat) (v1 : Int32) (v2 : Int32) (v3 : Int32) (H : Heap) (locs : List Loc) (ls : Array Slot), pX2_touchesDirty_2 c n v1 v2 v3 = some r0 → va_P (dC, dI) vwCl (wC ad cA c) H → va_S (fA 17 ad s.heap.size) s.heap H locs → lv_has ls 4 [(0, .ref (ad 2)), (1, .int v1), (2, .int v2), (3, .int v3)] → W p l e (headSpec wsX2_touchesDirty ({ frames := 0, cells := 0, slots := 0, locals := 0 })).room s m ([.ref (ad 2), .int a1, .int a2]).toArray below meth cd H locs 0 0 (MQ below (gQi (dC, dI) (wC ad cA) (fA 17 ad s.heap.size) r0 c) ([.ref (ad 2), .int a1, .int a2]).toArray s 0 0 (fA 17 ad s.heap.size)) (F0 m 2 ls []) := by
    intro n
    induction n with
    | zero =>
      intro v1 v2 v3 H locs ls hM
      exact absurd (Eq.symm (hM : none = some r0)) sm_ne
    | succ n2 ih2 =>
      intro v1 v2 v3 H locs ls hM hP hS hl
      unfold pX2_touchesDirty_2 at hM
      refine lv_iload_n hx hb dX2_touchesDirty_2 rfl (lv_at hl 3 rfl) ?_
      refine lv_iload_n hx hb dX2_touchesDirty_3 rfl (lv_at hl 2 rfl) ?_
      refine lv_icmp_ge (tgt := 30) hx hb dX2_touchesDirty_4 (by decide) (fun e4 => ?_) (fun e4 => ?_)
      · have hM := it_p e4 hM
        refine lv_iconst (v := 0) hx hb dX2_touchesDirty_30 (by decide) ?_
        exact W.zret hx hb hr rfl (fun t ht hW => ⟨⟨_, _, rfl, ⟨pr1 hM, rfl⟩, hPt ht hP⟩, hS.F ht⟩) hS.2.2 dX2_touchesDirty_31
      · have hM := it_n e4 hM
        refine lv_aload_n hx hb dX2_touchesDirty_7 rfl (lv_at hl 0 rfl) ?_
        refine gget (v := .ref (ad 13)) hx hb hts i2 hown hK1 hP 2 rfl rfl 4 (by decide) f19 rfl rfl dX2_touchesDirty_8 ?_
        refine lv_iload_n hx hb dX2_touchesDirty_11 rfl (lv_at hl 1 rfl) ?_
        refine lv_iload_n hx hb dX2_touchesDirty_12 rfl (lv_at hl 3 rfl) ?_
        refine lv_iadd hx hb dX2_touchesDirty_13 ?_
        refine lv_bipush (v := 64) hx hb dX2_touchesDirty_14 (by decide) ?_
        refine lv_idiv hx hb dX2_touchesDirty_16 (by decide) ?_
        obtain ⟨h2, x1, hx1, hM⟩ := ldA_some sm_ne hM
        refine gald hx hb hK1 hP 13 8 rfl rfl h2 hx1 dX2_touchesDirty_17 ?_
        refine lv_iconst (v := 1) hx hb dX2_touchesDirty_18 (by decide) ?_
        refine lv_icmp_ne (tgt := 24) hx hb dX2_touchesDirty_19 (by decide) (fun e3 => ?_) (fun e3 => ?_)
        · have hM := it_n e3 hM
          refine lv_iinc (v := v3 + 1) (lv' := [(3, .int (v3 + 1)), (0, .ref (ad 2)), (1, .int v1), (2, .int v2)]) hx hb dX2_touchesDirty_24 hl (k := 3) rfl rfl (by decide) rfl (fun ls hl => ?_)
          refine lv_goto (tgt := 2) hx hb dX2_touchesDirty_27 (by decide) ?_
          exact ih2 _ _ _ _ _ _ hM hP hS (lv_sub hl [1, 2, 3, 0] rfl)
        · have hM := it_p e3 hM
          refine lv_iconst (v := 1) hx hb dX2_touchesDirty_22 (by decide) ?_
          exact W.zret hx hb hr rfl (fun t ht hW => ⟨⟨_, _, rfl, ⟨pr1 hM, rfl⟩, hPt ht hP⟩, hS.F ht⟩) hS.2.2 dX2_touchesDirty_23
  have hl := lv_entry [.ref (ad 2), .int a1, .int a2] (n := 4) (Nat.le_of_ble_eq_true rfl)
  rw [lg_entry_eq]
  generalize (lg_sl [.ref (ad 2), .int a1, .int a2] ++ List.replicate (4 - (lg_sl [.ref (ad 2), .int a1, .int a2]).length) Slot.unset).toArray = ls at hl ⊢
  have hl : lv_has ls 4 [(0, .ref (ad 2)), (1, .int a1), (2, .int a2)] := hl
  have hP : va_P (dC, dI) vwCl (wC ad cA c) s.heap := hP
  unfold pX2_touchesDirty at hM
  refine lv_iconst (v := 0) hx hb dX2_touchesDirty_0 (by decide) ?_
  refine lv_istore_n (lv' := [(3, .int 0), (0, .ref (ad 2)), (1, .int a1), (2, .int a2)]) hx hb dX2_touchesDirty_1 rfl hl (by decide) rfl (fun ls hl => ?_)
  exact L2 _ _ _ _ _ _ _ hM hP hS (lv_sub hl [1, 2, 3, 0] rfl)
set_option maxHeartbeats 4000000 in
set_option maxRecDepth 100000 in
theorem kX2_inLog (l : Launch) (dC : Nat → ClassId) (dI : Nat → Nat → Nat) (ad : Nat → Nat) (cA : Nat → ClassId) (hap : apart 17 ad) (sz : Nat) (c : HS) (a1 : Int32) (r0 : Int32) (hM : pX2_inLog c a1 = some r0) : Met l yX2_inLog wsX2_inLog ({ frames := 0, cells := 0, slots := 0, locals := 0 }) (gP (dC, dI) (wC ad cA) (kC (dC, dI) cA) c sz [.ref (ad 2), .int a1]) (gQi (dC, dI) (wC ad cA) (fA 17 ad sz) r0 c) 0 0 (fA 17 ad sz) := by
  refine Met.ofW (cc := cX2_inLog) (maxL := 3) (ret := (some .boolean)) (by decide) rfl ?_
  intro p e s m args below meth cd s₁ B hml hv
  obtain ⟨rfl, rfl, hP, hK⟩ := hv
  have hx := B.exec
  have hb := B.bytes
  have hr := B.returns
  have hts := atoms_spec (ws := wsX2_inLog) B.pre
  have hown : s.vm.findClass RX2 = some m.cls := findClass_of_methodNamed B.named
  have hlocks := B.notSynchronized
  have hK1 : va_K (dC, dI) vwCl (tC cA) s := hK.1
  have hD : ∀ c, va_D (fA 17 ad s.heap.size) (wC ad cA c) := fun c => dC_ok hap cA c _
  have hS : va_S (fA 17 ad s.heap.size) s.heap s.heap [] := va_S.rf
  have i2 : ∀ w ∈ u_ws RX2 TX2 5, w ∈ wsX2_inLog := by decide +kernel
  have f15 := hts (.fieldLink RX2 15 "StickyHeap$Memory" "log" "[I") (by decide +kernel)
  have f22 := hts (.fieldLink RX2 22 "StickyHeap$Memory" "size" "I") (by decide +kernel)
  have L2 : ∀ (n : Nat) (v1 : Int32) (v2 : Int32) (H : Heap) (locs : List Loc) (ls : Array Slot), pX2_inLog_2 c n v1 v2 = some r0 → va_P (dC, dI) vwCl (wC ad cA c) H → va_S (fA 17 ad s.heap.size) s.heap H locs → lv_has ls 3 [(0, .ref (ad 2)), (1, .int v1), (2, .int v2)] → W p l e (headSpec wsX2_inLog ({ frames := 0, cells := 0, slots := 0, locals := 0 })).room s m ([.ref (ad 2), .int a1]).toArray below meth cd H locs 0 0 (MQ below (gQi (dC, dI) (wC ad cA) (fA 17 ad s.heap.size) r0 c) ([.ref (ad 2), .int a1]).toArray s 0 0 (fA 17 ad s.heap.size)) (F0 m 2 ls []) := by
    intro n
    induction n with
    | zero =>
      intro v1 v2 H locs ls hM
      exact absurd (Eq.symm (hM : none = some r0)) sm_ne
    | succ n2 ih2 =>
      intro v1 v2 H locs ls hM hP hS hl
      unfold pX2_inLog_2 at hM
      refine lv_iload_n hx hb dX2_inLog_2 rfl (lv_at hl 2 rfl) ?_
      refine lv_aload_n hx hb dX2_inLog_3 rfl (lv_at hl 0 rfl) ?_
      refine gget (v := .int (c.1 0 3)) hx hb hts i2 hown hK1 hP 2 rfl rfl 2 (by decide) f22 rfl rfl dX2_inLog_4 ?_
      refine lv_icmp_ge (tgt := 28) hx hb dX2_inLog_7 (by decide) (fun e4 => ?_) (fun e4 => ?_)
      · have hM := it_p e4 hM
        refine lv_iconst (v := 0) hx hb dX2_inLog_28 (by decide) ?_
        exact W.zret hx hb hr rfl (fun t ht hW => ⟨⟨_, _, rfl, ⟨pr1 hM, rfl⟩, hPt ht hP⟩, hS.F ht⟩) hS.2.2 dX2_inLog_29
      · have hM := it_n e4 hM
        refine lv_aload_n hx hb dX2_inLog_10 rfl (lv_at hl 0 rfl) ?_
        refine gget (v := .ref (ad 12)) hx hb hts i2 hown hK1 hP 2 rfl rfl 1 (by decide) f15 rfl rfl dX2_inLog_11 ?_
        refine lv_iload_n hx hb dX2_inLog_14 rfl (lv_at hl 2 rfl) ?_
        obtain ⟨h2, x1, hx1, hM⟩ := ldA_some sm_ne hM
        refine gald hx hb hK1 hP 12 7 rfl rfl h2 hx1 dX2_inLog_15 ?_
        refine lv_iload_n hx hb dX2_inLog_16 rfl (lv_at hl 1 rfl) ?_
        refine lv_icmp_ne (tgt := 22) hx hb dX2_inLog_17 (by decide) (fun e3 => ?_) (fun e3 => ?_)
        · have hM := it_n e3 hM
          refine lv_iinc (v := v2 + 1) (lv' := [(2, .int (v2 + 1)), (0, .ref (ad 2)), (1, .int v1)]) hx hb dX2_inLog_22 hl (k := 2) rfl rfl (by decide) rfl (fun ls hl => ?_)
          refine lv_goto (tgt := 2) hx hb dX2_inLog_25 (by decide) ?_
          exact ih2 _ _ _ _ _ hM hP hS (lv_sub hl [1, 2, 0] rfl)
        · have hM := it_p e3 hM
          refine lv_iconst (v := 1) hx hb dX2_inLog_20 (by decide) ?_
          exact W.zret hx hb hr rfl (fun t ht hW => ⟨⟨_, _, rfl, ⟨pr1 hM, rfl⟩, hPt ht hP⟩, hS.F ht⟩) hS.2.2 dX2_inLog_21
  have hl := lv_entry [.ref (ad 2), .int a1] (n := 3) (Nat.le_of_ble_eq_true rfl)
  rw [lg_entry_eq]
  generalize (lg_sl [.ref (ad 2), .int a1] ++ List.replicate (3 - (lg_sl [.ref (ad 2), .int a1]).length) Slot.unset).toArray = ls at hl ⊢
  have hl : lv_has ls 3 [(0, .ref (ad 2)), (1, .int a1)] := hl
  have hP : va_P (dC, dI) vwCl (wC ad cA c) s.heap := hP
  unfold pX2_inLog at hM
  refine lv_iconst (v := 0) hx hb dX2_inLog_0 (by decide) ?_
  refine lv_istore_n (lv' := [(2, .int 0), (0, .ref (ad 2)), (1, .int a1)]) hx hb dX2_inLog_1 rfl hl (by decide) rfl (fun ls hl => ?_)
  exact L2 _ _ _ _ _ _ hM hP hS (lv_sub hl [1, 2, 0] rfl)
set_option maxHeartbeats 4000000 in
set_option maxRecDepth 100000 in
theorem kX2_counts (l : Launch) (dC : Nat → ClassId) (dI : Nat → Nat → Nat) (ad : Nat → Nat) (cA : Nat → ClassId) (hap : apart 17 ad) (sz : Nat) (c : HS) (a2 : Int32) (r0 : Int32) (hM : pX2_counts c a2 = some r0) : Met l yX2_counts wsX2_counts ({ frames := 2, cells := 0, slots := 0, locals := 42 }) (gP (dC, dI) (wC ad cA) (kC (dC, dI) cA) c sz [.ref (ad 2), .ref (ad 1), .int a2]) (gQi (dC, dI) (wC ad cA) (fA 17 ad sz) r0 c) 0 0 (fA 17 ad sz) := by
  refine Met.ofW (cc := cX2_counts) (maxL := 3) (ret := (some .boolean)) (by decide) rfl ?_
  intro p e s m args below meth cd s₁ B hml hv
  obtain ⟨rfl, rfl, hP, hK⟩ := hv
  have hx := B.exec
  have hb := B.bytes
  have hr := B.returns
  have hts := atoms_spec (ws := wsX2_counts) B.pre
  have hown : s.vm.findClass RX2 = some m.cls := findClass_of_methodNamed B.named
  have hlocks := B.notSynchronized
  have hK1 : va_K (dC, dI) vwCl (tC cA) s := hK.1
  have hD : ∀ c, va_D (fA 17 ad s.heap.size) (wC ad cA c) := fun c => dC_ok hap cA c _
  have hS : va_S (fA 17 ad s.heap.size) s.heap s.heap [] := va_S.rf
  have i2 : ∀ w ∈ u_ws RX2 TX2 5, w ∈ wsX2_counts := by decide +kernel
  have f9 := hts (.fieldLink RX2 9 "StickyHeap$Memory" "way" "I") (by decide +kernel)
  have f25 := hts (.fieldLink RX2 25 "StickyHeap$Memory" "over" "Z") (by decide +kernel)
  have hl := lv_entry [.ref (ad 2), .ref (ad 1), .int a2] (n := 3) (Nat.le_of_ble_eq_true rfl)
  rw [lg_entry_eq]
  generalize (lg_sl [.ref (ad 2), .ref (ad 1), .int a2] ++ List.replicate (3 - (lg_sl [.ref (ad 2), .ref (ad 1), .int a2]).length) Slot.unset).toArray = ls at hl ⊢
  have hl : lv_has ls 3 [(0, .ref (ad 2)), (1, .ref (ad 1)), (2, .int a2)] := hl
  have hP : va_P (dC, dI) vwCl (wC ad cA c) s.heap := hP
  unfold pX2_counts at hM
  refine lv_aload_n hx hb dX2_counts_0 rfl (lv_at hl 1 rfl) ?_
  refine lv_iload_n hx hb dX2_counts_1 rfl (lv_at hl 2 rfl) ?_
  obtain ⟨r2, h1, hM⟩ := bd1_some sm_ne hM
  refine gCi (gV (As := [.int a2]) (rest := []) ⟨hx, hb, hml, hown, hts⟩ (kX3_ageOf l dC dI ad cA hap _ c a2 _ h1) (cwV 1 hts gX2_counts_X3_ageOf rfl rfl rfl (by decide +kernel) ⟨Nat.le_of_ble_eq_true rfl, Nat.le_of_ble_eq_true rfl⟩) (kC_st _ _) hK hP (va_recv hK1 hP (ci := 3) (q0 := 1) rfl rfl) rfl hl.1 rfl (Nat.le_of_ble_eq_true rfl) dX2_counts_2 ⟨Nat.zero_le _, Nat.zero_le _⟩) hS (fun H locs hP hS => ?_)
  refine lv_iconst (v := 3) hx hb dX2_counts_5 (by decide) ?_
  refine lv_icmp_eq (tgt := 11) hx hb dX2_counts_6 (by decide) (fun e13 => ?_) (fun e13 => ?_)
  · have hM := it_p e13 hM
    refine lv_aload_n hx hb dX2_counts_11 rfl (lv_at hl 0 rfl) ?_
    refine gget (v := .int (c.1 0 2)) hx hb hts i2 hown hK1 hP 2 rfl rfl 0 (by decide) f9 rfl rfl dX2_counts_12 ?_
    refine lv_iconst (v := 1) hx hb dX2_counts_15 (by decide) ?_
    refine lv_icmp_ne (tgt := 30) hx hb dX2_counts_16 (by decide) (fun e12 => ?_) (fun e12 => ?_)
    · have hM := it_n e12 hM
      refine lv_aload_n hx hb dX2_counts_30 rfl (lv_at hl 0 rfl) ?_
      refine gget (v := .int (c.1 0 4)) hx hb hts i2 hown hK1 hP 2 rfl rfl 3 (by decide) f25 rfl rfl dX2_counts_31 ?_
      refine lv_if_ne (tgt := 45) hx hb dX2_counts_34 (by decide) (fun e6 => ?_) (fun e6 => ?_)
      · have hM := it_n e6 hM
        refine lv_iconst (v := 1) hx hb dX2_counts_45 (by decide) ?_
        refine lv_goto (tgt := 50) hx hb dX2_counts_46 (by decide) ?_
        exact W.zret hx hb hr rfl (fun t ht hW => ⟨⟨_, _, rfl, ⟨pr1 hM, rfl⟩, hPt ht hP⟩, hS.F ht⟩) hS.2.2 dX2_counts_50
      · have hM := it_p e6 hM
        refine lv_aload_n hx hb dX2_counts_37 rfl (lv_at hl 0 rfl) ?_
        refine lv_iload_n hx hb dX2_counts_38 rfl (lv_at hl 2 rfl) ?_
        obtain ⟨r4, h3, hM⟩ := bd1_some sm_ne hM
        refine gCi (gV (As := [.int a2]) (rest := []) ⟨hx, hb, hml, hown, hts⟩ (kX2_inLog l dC dI ad cA hap _ c a2 _ h3) (cwV 1 hts gX2_counts_X2_inLog rfl rfl rfl (by decide +kernel) ⟨Nat.le_of_ble_eq_true rfl, Nat.le_of_ble_eq_true rfl⟩) (kC_st _ _) hK hP (va_recv hK1 hP (ci := 2) (q0 := 2) rfl rfl) rfl hl.1 rfl (Nat.le_of_ble_eq_true rfl) dX2_counts_39 ⟨Nat.zero_le _, Nat.zero_le _⟩) hS (fun H locs hP hS => ?_)
        refine lv_if_eq (tgt := 49) hx hb dX2_counts_42 (by decide) (fun e5 => ?_) (fun e5 => ?_)
        · have hM := it_p e5 hM
          refine lv_iconst (v := 0) hx hb dX2_counts_49 (by decide) ?_
          exact W.zret hx hb hr rfl (fun t ht hW => ⟨⟨_, _, rfl, ⟨pr1 hM, rfl⟩, hPt ht hP⟩, hS.F ht⟩) hS.2.2 dX2_counts_50
        · have hM := it_n e5 hM
          refine lv_iconst (v := 1) hx hb dX2_counts_45 (by decide) ?_
          refine lv_goto (tgt := 50) hx hb dX2_counts_46 (by decide) ?_
          exact W.zret hx hb hr rfl (fun t ht hW => ⟨⟨_, _, rfl, ⟨pr1 hM, rfl⟩, hPt ht hP⟩, hS.F ht⟩) hS.2.2 dX2_counts_50
    · have hM := it_p e12 hM
      refine lv_aload_n hx hb dX2_counts_19 rfl (lv_at hl 0 rfl) ?_
      refine lv_iload_n hx hb dX2_counts_20 rfl (lv_at hl 2 rfl) ?_
      refine lv_aload_n hx hb dX2_counts_21 rfl (lv_at hl 1 rfl) ?_
      refine lv_iload_n hx hb dX2_counts_22 rfl (lv_at hl 2 rfl) ?_
      obtain ⟨r8, h7, hM⟩ := bd1_some sm_ne hM
      refine gCi (gV (As := [.int a2]) (rest := [.int a2, .ref (ad 2)]) ⟨hx, hb, hml, hown, hts⟩ (kX3_referencesOf l dC dI ad cA hap _ c a2 _ h7) (cwV 1 hts gX2_counts_X3_referencesOf rfl rfl rfl (by decide +kernel) ⟨Nat.le_of_ble_eq_true rfl, Nat.le_of_ble_eq_true rfl⟩) (kC_st _ _) hK hP (va_recv hK1 hP (ci := 3) (q0 := 1) rfl rfl) rfl hl.1 rfl (Nat.le_of_ble_eq_true rfl) dX2_counts_23 ⟨Nat.zero_le _, Nat.zero_le _⟩) hS (fun H locs hP hS => ?_)
      obtain ⟨r10, h9, hM⟩ := bd1_some sm_ne hM
      refine gCi (gV (As := [.int a2, .int r8]) (rest := []) ⟨hx, hb, hml, hown, hts⟩ (kX2_touchesDirty l dC dI ad cA hap _ c a2 r8 _ h9) (cwV 2 hts gX2_counts_X2_touchesDirty rfl rfl rfl (by decide +kernel) ⟨Nat.le_of_ble_eq_true rfl, Nat.le_of_ble_eq_true rfl⟩) (kC_st _ _) hK hP (va_recv hK1 hP (ci := 2) (q0 := 2) rfl rfl) rfl hl.1 rfl (Nat.le_of_ble_eq_true rfl) dX2_counts_26 ⟨Nat.zero_le _, Nat.zero_le _⟩) hS (fun H locs hP hS => ?_)
      obtain ⟨h11, hM⟩ := gdZ_some sm_ne hM
      exact W.zret hx hb hr h11.1 (fun t ht hW => ⟨⟨_, _, rfl, ⟨pr1 hM, rfl⟩, hPt ht hP⟩, hS.F ht⟩) hS.2.2 dX2_counts_29
  · have hM := it_n e13 hM
    refine lv_iconst (v := 0) hx hb dX2_counts_9 (by decide) ?_
    exact W.zret hx hb hr rfl (fun t ht hW => ⟨⟨_, _, rfl, ⟨pr1 hM, rfl⟩, hPt ht hP⟩, hS.F ht⟩) hS.2.2 dX2_counts_10
set_option maxHeartbeats 4000000 in
set_option maxRecDepth 100000 in
theorem kX0_lookAt (l : Launch) (dC : Nat → ClassId) (dI : Nat → Nat → Nat) (ad : Nat → Nat) (cA : Nat → ClassId) (hap : apart 17 ad) (sz : Nat) (c : HS) (a1 : Int32) (c9 : HS) (hM : pX0_lookAt c a1 = some c9) : Met l yX0_lookAt wsX0_lookAt ({ frames := 2, cells := 0, slots := 0, locals := 42 }) (gP (dC, dI) (wC ad cA) (kC (dC, dI) cA) c sz [.ref (ad 4), .int a1]) (gQv (dC, dI) (wC ad cA) (fA 17 ad sz) c9) 0 0 (fA 17 ad sz) := by
  refine Met.ofW (cc := cX0_lookAt) (maxL := 4) (ret := none) (by decide) rfl ?_
  intro p e s m args below meth cd s₁ B hml hv
  obtain ⟨rfl, rfl, hP, hK⟩ := hv
  have hx := B.exec
  have hb := B.bytes
  have hr := B.returns
  have hts := atoms_spec (ws := wsX0_lookAt) B.pre
  have hown : s.vm.findClass RX0 = some m.cls := findClass_of_methodNamed B.named
  have hlocks := B.notSynchronized
  have hK1 : va_K (dC, dI) vwCl (tC cA) s := hK.1
  have hD : ∀ c, va_D (fA 17 ad s.heap.size) (wC ad cA c) := fun c => dC_ok hap cA c _
  have hS : va_S (fA 17 ad s.heap.size) s.heap s.heap [] := va_S.rf
  have i0 : ∀ w ∈ u_ws RX0 TX0 9, w ∈ wsX0_lookAt := by decide +kernel
  have i3 : ∀ w ∈ u_ws RX3 TX3 9, w ∈ wsX0_lookAt := by decide +kernel
  have f15 := hts (.fieldLink RX0 15 "StickyHeap$Collector" "space" "LStickyHeap$Space;") (by decide +kernel)
  have f89 := hts (.fieldLink RX0 89 "StickyHeap$Space" "words" "[I") (by decide +kernel)
  have f92 := hts (.fieldLink RX0 92 "StickyHeap$Collector" "lookedAt" "I") (by decide +kernel)
  have L11 : ∀ (n : Nat) (c : HS) (v1 : Int32) (v2 : Int32) (v3 : Int32) (H : Heap) (locs : List Loc) (ls : Array Slot), pX0_lookAt_11 n c v1 v2 v3 = some c9 → va_P (dC, dI) vwCl (wC ad cA c) H → va_S (fA 17 ad s.heap.size) s.heap H locs → lv_has ls 4 [(0, .ref (ad 4)), (1, .int v1), (2, .int v2), (3, .int v3)] → W p l e (headSpec wsX0_lookAt ({ frames := 2, cells := 0, slots := 0, locals := 42 })).room s m ([.ref (ad 4), .int a1]).toArray below meth cd H locs 0 0 (MQ below (gQv (dC, dI) (wC ad cA) (fA 17 ad s.heap.size) c9) ([.ref (ad 4), .int a1]).toArray s 0 0 (fA 17 ad s.heap.size)) (F0 m 11 ls []) := by
    intro n
    induction n with
    | zero =>
      intro c v1 v2 v3 H locs ls hM
      exact absurd (Eq.symm (hM : none = some c9)) sm_ne
    | succ n11 ih11 =>
      intro c v1 v2 v3 H locs ls hM hP hS hl
      unfold pX0_lookAt_11 at hM
      refine lv_iload_n hx hb dX0_lookAt_11 rfl (lv_at hl 3 rfl) ?_
      refine lv_iload_n hx hb dX0_lookAt_12 rfl (lv_at hl 2 rfl) ?_
      refine lv_icmp_ge (tgt := 37) hx hb dX0_lookAt_13 (by decide) (fun e6 => ?_) (fun e6 => ?_)
      · have hM := it_p e6 hM
        refine lv_aload_n hx hb dX0_lookAt_37 rfl (lv_at hl 0 rfl) ?_
        refine lv_dup hx hb dX0_lookAt_38 rfl ?_
        refine gget (v := .int (c.1 0 10)) hx hb hts i0 hown hK1 hP 4 rfl rfl 8 (by decide) f92 rfl rfl dX0_lookAt_39 ?_
        refine lv_iload_n hx hb dX0_lookAt_42 rfl (lv_at hl 2 rfl) ?_
        refine lv_iadd hx hb dX0_lookAt_43 ?_
        obtain ⟨c1, hc1, hM⟩ := pfA_some hM
        refine gput (w := wC ad cA) (c := c) (c1 := c1) (v := .int ((c.1 0 10) + v2)) hx hb hts i0 tyX0 tyX0_ok nmX0 hown hK1 hP (hD c) hS 4 rfl rfl 8 (by decide) f92 rfl rfl rfl rfl (Nat.le_of_ble_eq_true rfl) (by rw [hc1]; rfl) dX0_lookAt_44 (fun H locs hP hS => ?_)
        exact W.vret hx hb hr (fun t ht hW => ⟨⟨_, rfl, pr1 hM, hPt ht hP⟩, hS.F ht⟩) hS.2.2 dX0_lookAt_47
      · have hM := it_n e6 hM
        refine lv_aload_n hx hb dX0_lookAt_16 rfl (lv_at hl 0 rfl) ?_
        refine lv_aload_n hx hb dX0_lookAt_17 rfl (lv_at hl 0 rfl) ?_
        refine gget (v := .ref (ad 1)) hx hb hts i0 hown hK1 hP 4 rfl rfl 0 (by decide) f15 rfl rfl dX0_lookAt_18 ?_
        refine gget (v := .ref (ad 8)) hx hb hts i3 hown hK1 hP 1 rfl rfl 5 (by decide) f89 rfl rfl dX0_lookAt_21 ?_
        refine lv_iload_n hx hb dX0_lookAt_24 rfl (lv_at hl 1 rfl) ?_
        refine lv_iload_n hx hb dX0_lookAt_25 rfl (lv_at hl 3 rfl) ?_
        refine lv_iadd hx hb dX0_lookAt_26 ?_
        obtain ⟨h3, x2, hx2, hM⟩ := ldA_some sm_ne hM
        refine gald hx hb hK1 hP 8 3 rfl rfl h3 hx2 dX0_lookAt_27 ?_
        obtain ⟨c5, h4, hM⟩ := bd1_some sm_ne hM
        refine gCv (gV (As := [.int x2]) (rest := []) ⟨hx, hb, hml, hown, hts⟩ (kX0_find l dC dI ad cA hap _ c x2 _ h4) (cwV 1 hts gX0_lookAt_X0_find rfl rfl rfl (by decide +kernel) ⟨Nat.le_of_ble_eq_true rfl, Nat.le_of_ble_eq_true rfl⟩) (kC_st _ _) hK hP (va_recv hK1 hP (ci := 0) (q0 := 4) rfl rfl) rfl hl.1 rfl (Nat.le_of_ble_eq_true rfl) dX0_lookAt_28 ⟨Nat.zero_le _, Nat.zero_le _⟩) hS (fun H locs hP hS => ?_)
        refine lv_iinc (v := v3 + 1) (lv' := [(3, .int (v3 + 1)), (0, .ref (ad 4)), (1, .int v1), (2, .int v2)]) hx hb dX0_lookAt_31 hl (k := 3) rfl rfl (by decide) rfl (fun ls hl => ?_)
        refine lv_goto (tgt := 11) hx hb dX0_lookAt_34 (by decide) ?_
        exact ih11 _ _ _ _ _ _ _ hM hP hS (lv_sub hl [1, 2, 3, 0] rfl)
  have hl := lv_entry [.ref (ad 4), .int a1] (n := 4) (Nat.le_of_ble_eq_true rfl)
  rw [lg_entry_eq]
  generalize (lg_sl [.ref (ad 4), .int a1] ++ List.replicate (4 - (lg_sl [.ref (ad 4), .int a1]).length) Slot.unset).toArray = ls at hl ⊢
  have hl : lv_has ls 4 [(0, .ref (ad 4)), (1, .int a1)] := hl
  have hP : va_P (dC, dI) vwCl (wC ad cA c) s.heap := hP
  unfold pX0_lookAt at hM
  refine lv_aload_n hx hb dX0_lookAt_0 rfl (lv_at hl 0 rfl) ?_
  refine gget (v := .ref (ad 1)) hx hb hts i0 hown hK1 hP 4 rfl rfl 0 (by decide) f15 rfl rfl dX0_lookAt_1 ?_
  refine lv_iload_n hx hb dX0_lookAt_4 rfl (lv_at hl 1 rfl) ?_
  obtain ⟨r8, h7, hM⟩ := bd1_some sm_ne hM
  refine gCi (gV (As := [.int a1]) (rest := []) ⟨hx, hb, hml, hown, hts⟩ (kX3_referencesOf l dC dI ad cA hap _ c a1 _ h7) (cwV 1 hts gX0_lookAt_X3_referencesOf rfl rfl rfl (by decide +kernel) ⟨Nat.le_of_ble_eq_true rfl, Nat.le_of_ble_eq_true rfl⟩) (kC_st _ _) hK hP (va_recv hK1 hP (ci := 3) (q0 := 1) rfl rfl) rfl hl.1 rfl (Nat.le_of_ble_eq_true rfl) dX0_lookAt_5 ⟨Nat.zero_le _, Nat.zero_le _⟩) hS (fun H locs hP hS => ?_)
  refine lv_istore_n (lv' := [(2, .int r8), (0, .ref (ad 4)), (1, .int a1)]) hx hb dX0_lookAt_8 rfl hl (by decide) rfl (fun ls hl => ?_)
  refine lv_iconst (v := 0) hx hb dX0_lookAt_9 (by decide) ?_
  refine lv_istore_n (lv' := [(3, .int 0), (2, .int r8), (0, .ref (ad 4)), (1, .int a1)]) hx hb dX0_lookAt_10 rfl hl (by decide) rfl (fun ls hl => ?_)
  exact L11 _ _ _ _ _ _ _ _ hM hP hS (lv_sub hl [2, 3, 1, 0] rfl)
set_option maxHeartbeats 4000000 in
set_option maxRecDepth 100000 in
theorem kX0_findRemembered (l : Launch) (dC : Nat → ClassId) (dI : Nat → Nat → Nat) (ad : Nat → Nat) (cA : Nat → ClassId) (hap : apart 17 ad) (sz : Nat) (c : HS) (c9 : HS) (hM : pX0_findRemembered c = some c9) : Met l yX0_findRemembered wsX0_findRemembered ({ frames := 3, cells := 0, slots := 0, locals := 65 }) (gP (dC, dI) (wC ad cA) (kC (dC, dI) cA) c sz [.ref (ad 4)]) (gQv (dC, dI) (wC ad cA) (fA 17 ad sz) c9) 0 0 (fA 17 ad sz) := by
  refine Met.ofW (cc := cX0_findRemembered) (maxL := 2) (ret := none) (by decide) rfl ?_
  intro p e s m args below meth cd s₁ B hml hv
  obtain ⟨rfl, rfl, hP, hK⟩ := hv
  have hx := B.exec
  have hb := B.bytes
  have hr := B.returns
  have hts := atoms_spec (ws := wsX0_findRemembered) B.pre
  have hown : s.vm.findClass RX0 = some m.cls := findClass_of_methodNamed B.named
  have hlocks := B.notSynchronized
  have hK1 : va_K (dC, dI) vwCl (tC cA) s := hK.1
  have hD : ∀ c, va_D (fA 17 ad s.heap.size) (wC ad cA c) := fun c => dC_ok hap cA c _
  have hS : va_S (fA 17 ad s.heap.size) s.heap s.heap [] := va_S.rf
  have i0 : ∀ w ∈ u_ws RX0 TX0 9, w ∈ wsX0_findRemembered := by decide +kernel
  have i3 : ∀ w ∈ u_ws RX3 TX3 9, w ∈ wsX0_findRemembered := by decide +kernel
  have f15 := hts (.fieldLink RX0 15 "StickyHeap$Collector" "space" "LStickyHeap$Space;") (by decide +kernel)
  have f19 := hts (.fieldLink RX0 19 "StickyHeap$Collector" "memory" "LStickyHeap$Memory;") (by decide +kernel)
  have f74 := hts (.fieldLink RX0 74 "StickyHeap$Space" "limit" "I") (by decide +kernel)
  have L2 : ∀ (n : Nat) (c : HS) (v1 : Int32) (H : Heap) (locs : List Loc) (ls : Array Slot), pX0_findRemembered_2 n c v1 = some c9 → va_P (dC, dI) vwCl (wC ad cA c) H → va_S (fA 17 ad s.heap.size) s.heap H locs → lv_has ls 2 [(0, .ref (ad 4)), (1, .int v1)] → W p l e (headSpec wsX0_findRemembered ({ frames := 3, cells := 0, slots := 0, locals := 65 })).room s m ([.ref (ad 4)]).toArray below meth cd H locs 0 0 (MQ below (gQv (dC, dI) (wC ad cA) (fA 17 ad s.heap.size) c9) ([.ref (ad 4)]).toArray s 0 0 (fA 17 ad s.heap.size)) (F0 m 2 ls []) := by
    intro n
    induction n with
    | zero =>
      intro c v1 H locs ls hM
      exact absurd (Eq.symm (hM : none = some c9)) sm_ne
    | succ n2 ih2 =>
      intro c v1 H locs ls hM hP hS hl
      unfold pX0_findRemembered_2 at hM
      refine lv_iload_n hx hb dX0_findRemembered_2 rfl (lv_at hl 1 rfl) ?_
      refine lv_aload_n hx hb dX0_findRemembered_3 rfl (lv_at hl 0 rfl) ?_
      refine gget (v := .ref (ad 1)) hx hb hts i0 hown hK1 hP 4 rfl rfl 0 (by decide) f15 rfl rfl dX0_findRemembered_4 ?_
      refine gget (v := .int (c.1 0 1)) hx hb hts i3 hown hK1 hP 1 rfl rfl 1 (by decide) f74 rfl rfl dX0_findRemembered_7 ?_
      refine lv_icmp_ge (tgt := 39) hx hb dX0_findRemembered_10 (by decide) (fun e6 => ?_) (fun e6 => ?_)
      · have hM := it_p e6 hM
        exact W.vret hx hb hr (fun t ht hW => ⟨⟨_, rfl, pr1 hM, hPt ht hP⟩, hS.F ht⟩) hS.2.2 dX0_findRemembered_39
      · have hM := it_n e6 hM
        refine lv_aload_n hx hb dX0_findRemembered_13 rfl (lv_at hl 0 rfl) ?_
        refine gget (v := .ref (ad 2)) hx hb hts i0 hown hK1 hP 4 rfl rfl 1 (by decide) f19 rfl rfl dX0_findRemembered_14 ?_
        refine lv_aload_n hx hb dX0_findRemembered_17 rfl (lv_at hl 0 rfl) ?_
        refine gget (v := .ref (ad 1)) hx hb hts i0 hown hK1 hP 4 rfl rfl 0 (by decide) f15 rfl rfl dX0_findRemembered_18 ?_
        refine lv_iload_n hx hb dX0_findRemembered_21 rfl (lv_at hl 1 rfl) ?_
        obtain ⟨r2, h1, hM⟩ := bd1_some sm_ne hM
        refine gCi (gV (As := [.ref (ad 1), .int v1]) (rest := []) ⟨hx, hb, hml, hown, hts⟩ (kX2_counts l dC dI ad cA hap _ c v1 _ h1) (cwV 2 hts gX0_findRemembered_X2_counts rfl rfl rfl (by decide +kernel) ⟨Nat.le_of_ble_eq_true rfl, Nat.le_of_ble_eq_true rfl⟩) (kC_st _ _) hK hP (va_recv hK1 hP (ci := 2) (q0 := 2) rfl rfl) rfl hl.1 rfl (Nat.le_of_ble_eq_true rfl) dX0_findRemembered_22 ⟨Nat.zero_le _, Nat.zero_le _⟩) hS (fun H locs hP hS => ?_)
        refine lv_if_eq (tgt := 33) hx hb dX0_findRemembered_25 (by decide) (fun e5 => ?_) (fun e5 => ?_)
        · have hM := it_p e5 hM
          refine lv_iinc (v := v1 + 2) (lv' := [(1, .int (v1 + 2)), (0, .ref (ad 4))]) hx hb dX0_findRemembered_33 hl (k := 1) rfl rfl (by decide) rfl (fun ls hl => ?_)
          refine lv_goto (tgt := 2) hx hb dX0_findRemembered_36 (by decide) ?_
          exact ih2 _ _ _ _ _ hM hP hS (lv_sub hl [1, 0] rfl)
        · have hM := it_n e5 hM
          refine lv_aload_n hx hb dX0_findRemembered_28 rfl (lv_at hl 0 rfl) ?_
          refine lv_iload_n hx hb dX0_findRemembered_29 rfl (lv_at hl 1 rfl) ?_
          obtain ⟨c4, h3, hM⟩ := bd1_some sm_ne hM
          refine gCv (gV (As := [.int v1]) (rest := []) ⟨hx, hb, hml, hown, hts⟩ (kX0_lookAt l dC dI ad cA hap _ c v1 _ h3) (cwV 1 hts gX0_findRemembered_X0_lookAt rfl rfl rfl (by decide +kernel) ⟨Nat.le_of_ble_eq_true rfl, Nat.le_of_ble_eq_true rfl⟩) (kC_st _ _) hK hP (va_recv hK1 hP (ci := 0) (q0 := 4) rfl rfl) rfl hl.1 rfl (Nat.le_of_ble_eq_true rfl) dX0_findRemembered_30 ⟨Nat.zero_le _, Nat.zero_le _⟩) hS (fun H locs hP hS => ?_)
          refine lv_iinc (v := v1 + 2) (lv' := [(1, .int (v1 + 2)), (0, .ref (ad 4))]) hx hb dX0_findRemembered_33 hl (k := 1) rfl rfl (by decide) rfl (fun ls hl => ?_)
          refine lv_goto (tgt := 2) hx hb dX0_findRemembered_36 (by decide) ?_
          exact ih2 _ _ _ _ _ hM hP hS (lv_sub hl [1, 0] rfl)
  have hl := lv_entry [.ref (ad 4)] (n := 2) (Nat.le_of_ble_eq_true rfl)
  rw [lg_entry_eq]
  generalize (lg_sl [.ref (ad 4)] ++ List.replicate (2 - (lg_sl [.ref (ad 4)]).length) Slot.unset).toArray = ls at hl ⊢
  have hl : lv_has ls 2 [(0, .ref (ad 4))] := hl
  have hP : va_P (dC, dI) vwCl (wC ad cA c) s.heap := hP
  unfold pX0_findRemembered at hM
  refine lv_iconst (v := 0) hx hb dX0_findRemembered_0 (by decide) ?_
  refine lv_istore_n (lv' := [(1, .int 0), (0, .ref (ad 4))]) hx hb dX0_findRemembered_1 rfl hl (by decide) rfl (fun ls hl => ?_)
  exact L2 _ _ _ _ _ _ hM hP hS (lv_sub hl [1, 0] rfl)
set_option maxHeartbeats 4000000 in
set_option maxRecDepth 100000 in
theorem kX0_findReferred (l : Launch) (dC : Nat → ClassId) (dI : Nat → Nat → Nat) (ad : Nat → Nat) (cA : Nat → ClassId) (hap : apart 17 ad) (sz : Nat) (c : HS) (c9 : HS) (hM : pX0_findReferred c = some c9) : Met l yX0_findReferred wsX0_findReferred ({ frames := 3, cells := 0, slots := 0, locals := 65 }) (gP (dC, dI) (wC ad cA) (kC (dC, dI) cA) c sz [.ref (ad 4)]) (gQv (dC, dI) (wC ad cA) (fA 17 ad sz) c9) 0 0 (fA 17 ad sz) := by
  refine Met.ofW (cc := cX0_findReferred) (maxL := 2) (ret := none) (by decide) rfl ?_
  intro p e s m args below meth cd s₁ B hml hv
  obtain ⟨rfl, rfl, hP, hK⟩ := hv
  have hx := B.exec
  have hb := B.bytes
  have hr := B.returns
  have hts := atoms_spec (ws := wsX0_findReferred) B.pre
  have hown : s.vm.findClass RX0 = some m.cls := findClass_of_methodNamed B.named
  have hlocks := B.notSynchronized
  have hK1 : va_K (dC, dI) vwCl (tC cA) s := hK.1
  have hD : ∀ c, va_D (fA 17 ad s.heap.size) (wC ad cA c) := fun c => dC_ok hap cA c _
  have hS : va_S (fA 17 ad s.heap.size) s.heap s.heap [] := va_S.rf
  have i0 : ∀ w ∈ u_ws RX0 TX0 9, w ∈ wsX0_findReferred := by decide +kernel
  have f9 := hts (.fieldLink RX0 9 "StickyHeap$Collector" "found" "[I") (by decide +kernel)
  have f31 := hts (.fieldLink RX0 31 "StickyHeap$Collector" "foundCount" "I") (by decide +kernel)
  have L2 : ∀ (n : Nat) (c : HS) (v1 : Int32) (H : Heap) (locs : List Loc) (ls : Array Slot), pX0_findReferred_2 n c v1 = some c9 → va_P (dC, dI) vwCl (wC ad cA c) H → va_S (fA 17 ad s.heap.size) s.heap H locs → lv_has ls 2 [(0, .ref (ad 4)), (1, .int v1)] → W p l e (headSpec wsX0_findReferred ({ frames := 3, cells := 0, slots := 0, locals := 65 })).room s m ([.ref (ad 4)]).toArray below meth cd H locs 0 0 (MQ below (gQv (dC, dI) (wC ad cA) (fA 17 ad s.heap.size) c9) ([.ref (ad 4)]).toArray s 0 0 (fA 17 ad s.heap.size)) (F0 m 2 ls []) := by
    intro n
    induction n with
    | zero =>
      intro c v1 H locs ls hM
      exact absurd (Eq.symm (hM : none = some c9)) sm_ne
    | succ n2 ih2 =>
      intro c v1 H locs ls hM hP hS hl
      unfold pX0_findReferred_2 at hM
      refine lv_iload_n hx hb dX0_findReferred_2 rfl (lv_at hl 1 rfl) ?_
      refine lv_aload_n hx hb dX0_findReferred_3 rfl (lv_at hl 0 rfl) ?_
      refine gget (v := .int (c.1 0 6)) hx hb hts i0 hown hK1 hP 4 rfl rfl 4 (by decide) f31 rfl rfl dX0_findReferred_4 ?_
      refine lv_icmp_ge (tgt := 33) hx hb dX0_findReferred_7 (by decide) (fun e6 => ?_) (fun e6 => ?_)
      · have hM := it_p e6 hM
        exact W.vret hx hb hr (fun t ht hW => ⟨⟨_, rfl, pr1 hM, hPt ht hP⟩, hS.F ht⟩) hS.2.2 dX0_findReferred_33
      · have hM := it_n e6 hM
        refine lv_iload_n hx hb dX0_findReferred_10 rfl (lv_at hl 1 rfl) ?_
        refine lv_sipush (v := 768) hx hb dX0_findReferred_11 (by decide) ?_
        refine lv_icmp_ge (tgt := 33) hx hb dX0_findReferred_14 (by decide) (fun e5 => ?_) (fun e5 => ?_)
        · have hM := it_p e5 hM
          exact W.vret hx hb hr (fun t ht hW => ⟨⟨_, rfl, pr1 hM, hPt ht hP⟩, hS.F ht⟩) hS.2.2 dX0_findReferred_33
        · have hM := it_n e5 hM
          refine lv_aload_n hx hb dX0_findReferred_17 rfl (lv_at hl 0 rfl) ?_
          refine lv_aload_n hx hb dX0_findReferred_18 rfl (lv_at hl 0 rfl) ?_
          refine gget (v := .ref (ad 16)) hx hb hts i0 hown hK1 hP 4 rfl rfl 3 (by decide) f9 rfl rfl dX0_findReferred_19 ?_
          refine lv_iload_n hx hb dX0_findReferred_22 rfl (lv_at hl 1 rfl) ?_
          obtain ⟨h2, x1, hx1, hM⟩ := ldA_some sm_ne hM
          refine gald hx hb hK1 hP 16 11 rfl rfl h2 hx1 dX0_findReferred_23 ?_
          obtain ⟨c4, h3, hM⟩ := bd1_some sm_ne hM
          refine gCv (gV (As := [.int x1]) (rest := []) ⟨hx, hb, hml, hown, hts⟩ (kX0_lookAt l dC dI ad cA hap _ c x1 _ h3) (cwV 1 hts gX0_findReferred_X0_lookAt rfl rfl rfl (by decide +kernel) ⟨Nat.le_of_ble_eq_true rfl, Nat.le_of_ble_eq_true rfl⟩) (kC_st _ _) hK hP (va_recv hK1 hP (ci := 0) (q0 := 4) rfl rfl) rfl hl.1 rfl (Nat.le_of_ble_eq_true rfl) dX0_findReferred_24 ⟨Nat.zero_le _, Nat.zero_le _⟩) hS (fun H locs hP hS => ?_)
          refine lv_iinc (v := v1 + 1) (lv' := [(1, .int (v1 + 1)), (0, .ref (ad 4))]) hx hb dX0_findReferred_27 hl (k := 1) rfl rfl (by decide) rfl (fun ls hl => ?_)
          refine lv_goto (tgt := 2) hx hb dX0_findReferred_30 (by decide) ?_
          exact ih2 _ _ _ _ _ hM hP hS (lv_sub hl [1, 0] rfl)
  have hl := lv_entry [.ref (ad 4)] (n := 2) (Nat.le_of_ble_eq_true rfl)
  rw [lg_entry_eq]
  generalize (lg_sl [.ref (ad 4)] ++ List.replicate (2 - (lg_sl [.ref (ad 4)]).length) Slot.unset).toArray = ls at hl ⊢
  have hl : lv_has ls 2 [(0, .ref (ad 4))] := hl
  have hP : va_P (dC, dI) vwCl (wC ad cA c) s.heap := hP
  unfold pX0_findReferred at hM
  refine lv_iconst (v := 0) hx hb dX0_findReferred_0 (by decide) ?_
  refine lv_istore_n (lv' := [(1, .int 0), (0, .ref (ad 4))]) hx hb dX0_findReferred_1 rfl hl (by decide) rfl (fun ls hl => ?_)
  exact L2 _ _ _ _ _ _ hM hP hS (lv_sub hl [1, 0] rfl)
set_option maxHeartbeats 4000000 in
set_option maxRecDepth 100000 in
theorem kX3_sweep (l : Launch) (dC : Nat → ClassId) (dI : Nat → Nat → Nat) (ad : Nat → Nat) (cA : Nat → ClassId) (hap : apart 17 ad) (sz : Nat) (c : HS) (r0 : Int32) (c9 : HS) (hM : pX3_sweep c = some (r0, c9)) : Met l yX3_sweep wsX3_sweep ({ frames := 0, cells := 0, slots := 0, locals := 0 }) (gP (dC, dI) (wC ad cA) (kC (dC, dI) cA) c sz [.ref (ad 1)]) (gQi (dC, dI) (wC ad cA) (fA 17 ad sz) r0 c9) 0 0 (fA 17 ad sz) := by
  refine Met.ofW (cc := cX3_sweep) (maxL := 3) (ret := (some .int)) (by decide) rfl ?_
  intro p e s m args below meth cd s₁ B hml hv
  obtain ⟨rfl, rfl, hP, hK⟩ := hv
  have hx := B.exec
  have hb := B.bytes
  have hr := B.returns
  have hts := atoms_spec (ws := wsX3_sweep) B.pre
  have hown : s.vm.findClass RX3 = some m.cls := findClass_of_methodNamed B.named
  have hlocks := B.notSynchronized
  have hK1 : va_K (dC, dI) vwCl (tC cA) s := hK.1
  have hD : ∀ c, va_D (fA 17 ad s.heap.size) (wC ad cA c) := fun c => dC_ok hap cA c _
  have hS : va_S (fA 17 ad s.heap.size) s.heap s.heap [] := va_S.rf
  have i3 : ∀ w ∈ u_ws RX3 TX3 9, w ∈ wsX3_sweep := by decide +kernel
  have f30 := hts (.fieldLink RX3 30 "StickyHeap$Space" "age" "[I") (by decide +kernel)
  have L4 : ∀ (n : Nat) (c : HS) (v1 : Int32) (v2 : Int32) (H : Heap) (locs : List Loc) (ls : Array Slot), pX3_sweep_4 n c v1 v2 = some (r0, c9) → va_P (dC, dI) vwCl (wC ad cA c) H → va_S (fA 17 ad s.heap.size) s.heap H locs → lv_has ls 3 [(0, .ref (ad 1)), (1, .int v1), (2, .int v2)] → W p l e (headSpec wsX3_sweep ({ frames := 0, cells := 0, slots := 0, locals := 0 })).room s m ([.ref (ad 1)]).toArray below meth cd H locs 0 0 (MQ below (gQi (dC, dI) (wC ad cA) (fA 17 ad s.heap.size) r0 c9) ([.ref (ad 1)]).toArray s 0 0 (fA 17 ad s.heap.size)) (F0 m 4 ls []) := by
    intro n
    induction n with
    | zero =>
      intro c v1 v2 H locs ls hM
      exact absurd (Eq.symm (hM : none = some (r0, c9))) sm_ne
    | succ n4 ih4 =>
      intro c v1 v2 H locs ls hM hP hS hl
      unfold pX3_sweep_4 at hM
      refine lv_iload_n hx hb dX3_sweep_4 rfl (lv_at hl 2 rfl) ?_
      refine lv_sipush (v := 768) hx hb dX3_sweep_5 (by decide) ?_
      refine lv_icmp_ge (tgt := 57) hx hb dX3_sweep_8 (by decide) (fun e11 => ?_) (fun e11 => ?_)
      · have hM := it_p e11 hM
        refine lv_iload_n hx hb dX3_sweep_57 rfl (lv_at hl 1 rfl) ?_
        exact W.iret hx hb hr (fun t ht hW => ⟨⟨_, _, rfl, pr2 hM, hPt ht hP⟩, hS.F ht⟩) hS.2.2 dX3_sweep_58
      · have hM := it_n e11 hM
        refine lv_aload_n hx hb dX3_sweep_11 rfl (lv_at hl 0 rfl) ?_
        refine gget (v := .ref (ad 11)) hx hb hts i3 hown hK1 hP 1 rfl rfl 8 (by decide) f30 rfl rfl dX3_sweep_12 ?_
        refine lv_iload_n hx hb dX3_sweep_15 rfl (lv_at hl 2 rfl) ?_
        obtain ⟨h2, x1, hx1, hM⟩ := ldA_some sm_ne hM
        refine gald hx hb hK1 hP 11 6 rfl rfl h2 hx1 dX3_sweep_16 ?_
        refine lv_iconst (v := 2) hx hb dX3_sweep_17 (by decide) ?_
        refine lv_icmp_ne (tgt := 31) hx hb dX3_sweep_18 (by decide) (fun e10 => ?_) (fun e10 => ?_)
        · have hM := it_n e10 hM
          refine lv_aload_n hx hb dX3_sweep_31 rfl (lv_at hl 0 rfl) ?_
          refine gget (v := .ref (ad 11)) hx hb hts i3 hown hK1 hP 1 rfl rfl 8 (by decide) f30 rfl rfl dX3_sweep_32 ?_
          refine lv_iload_n hx hb dX3_sweep_35 rfl (lv_at hl 2 rfl) ?_
          obtain ⟨h4, x3, hx3, hM⟩ := ldA_some sm_ne hM
          refine gald hx hb hK1 hP 11 6 rfl rfl h4 hx3 dX3_sweep_36 ?_
          refine lv_iconst (v := 1) hx hb dX3_sweep_37 (by decide) ?_
          refine lv_icmp_ne (tgt := 51) hx hb dX3_sweep_38 (by decide) (fun e7 => ?_) (fun e7 => ?_)
          · have hM := it_n e7 hM
            refine lv_iinc (v := v2 + 1) (lv' := [(2, .int (v2 + 1)), (0, .ref (ad 1)), (1, .int v1)]) hx hb dX3_sweep_51 hl (k := 2) rfl rfl (by decide) rfl (fun ls hl => ?_)
            refine lv_goto (tgt := 4) hx hb dX3_sweep_54 (by decide) ?_
            exact ih4 _ _ _ _ _ _ hM hP hS (lv_sub hl [1, 2, 0] rfl)
          · have hM := it_p e7 hM
            refine lv_aload_n hx hb dX3_sweep_41 rfl (lv_at hl 0 rfl) ?_
            refine gget (v := .ref (ad 11)) hx hb hts i3 hown hK1 hP 1 rfl rfl 8 (by decide) f30 rfl rfl dX3_sweep_42 ?_
            refine lv_iload_n hx hb dX3_sweep_45 rfl (lv_at hl 2 rfl) ?_
            refine lv_iconst (v := 0) hx hb dX3_sweep_46 (by decide) ?_
            obtain ⟨h6, c5, hc5, hM⟩ := stA_some sm_ne hM
            refine gast (w := wC ad cA) (c := c) (c1 := c5) hx hb hK1 hP (hD c) hS 11 6 rfl rfl h6 (by rw [hc5]; rfl) dX3_sweep_47 (fun H locs hP hS => ?_)
            refine lv_iinc (v := v1 + 1) (lv' := [(1, .int (v1 + 1)), (0, .ref (ad 1)), (2, .int v2)]) hx hb dX3_sweep_48 hl (k := 1) rfl rfl (by decide) rfl (fun ls hl => ?_)
            refine lv_iinc (v := v2 + 1) (lv' := [(2, .int (v2 + 1)), (1, .int (v1 + 1)), (0, .ref (ad 1))]) hx hb dX3_sweep_51 hl (k := 2) rfl rfl (by decide) rfl (fun ls hl => ?_)
            refine lv_goto (tgt := 4) hx hb dX3_sweep_54 (by decide) ?_
            exact ih4 _ _ _ _ _ _ hM hP hS (lv_sub hl [2, 1, 0] rfl)
        · have hM := it_p e10 hM
          refine lv_aload_n hx hb dX3_sweep_21 rfl (lv_at hl 0 rfl) ?_
          refine gget (v := .ref (ad 11)) hx hb hts i3 hown hK1 hP 1 rfl rfl 8 (by decide) f30 rfl rfl dX3_sweep_22 ?_
          refine lv_iload_n hx hb dX3_sweep_25 rfl (lv_at hl 2 rfl) ?_
          refine lv_iconst (v := 3) hx hb dX3_sweep_26 (by decide) ?_
          obtain ⟨h9, c8, hc8, hM⟩ := stA_some sm_ne hM
          refine gast (w := wC ad cA) (c := c) (c1 := c8) hx hb hK1 hP (hD c) hS 11 6 rfl rfl h9 (by rw [hc8]; rfl) dX3_sweep_27 (fun H locs hP hS => ?_)
          refine lv_goto (tgt := 51) hx hb dX3_sweep_28 (by decide) ?_
          refine lv_iinc (v := v2 + 1) (lv' := [(2, .int (v2 + 1)), (0, .ref (ad 1)), (1, .int v1)]) hx hb dX3_sweep_51 hl (k := 2) rfl rfl (by decide) rfl (fun ls hl => ?_)
          refine lv_goto (tgt := 4) hx hb dX3_sweep_54 (by decide) ?_
          exact ih4 _ _ _ _ _ _ hM hP hS (lv_sub hl [1, 2, 0] rfl)
  have hl := lv_entry [.ref (ad 1)] (n := 3) (Nat.le_of_ble_eq_true rfl)
  rw [lg_entry_eq]
  generalize (lg_sl [.ref (ad 1)] ++ List.replicate (3 - (lg_sl [.ref (ad 1)]).length) Slot.unset).toArray = ls at hl ⊢
  have hl : lv_has ls 3 [(0, .ref (ad 1))] := hl
  have hP : va_P (dC, dI) vwCl (wC ad cA c) s.heap := hP
  unfold pX3_sweep at hM
  refine lv_iconst (v := 0) hx hb dX3_sweep_0 (by decide) ?_
  refine lv_istore_n (lv' := [(1, .int 0), (0, .ref (ad 1))]) hx hb dX3_sweep_1 rfl hl (by decide) rfl (fun ls hl => ?_)
  refine lv_iconst (v := 0) hx hb dX3_sweep_2 (by decide) ?_
  refine lv_istore_n (lv' := [(2, .int 0), (1, .int 0), (0, .ref (ad 1))]) hx hb dX3_sweep_3 rfl hl (by decide) rfl (fun ls hl => ?_)
  exact L4 _ _ _ _ _ _ _ hM hP hS (lv_sub hl [2, 1, 0] rfl)
set_option maxHeartbeats 4000000 in
set_option maxRecDepth 100000 in
theorem kX3_freeEmptyBlocks (l : Launch) (dC : Nat → ClassId) (dI : Nat → Nat → Nat) (ad : Nat → Nat) (cA : Nat → ClassId) (hap : apart 17 ad) (sz : Nat) (c : HS) (c9 : HS) (hM : pX3_freeEmptyBlocks c = some c9) : Met l yX3_freeEmptyBlocks wsX3_freeEmptyBlocks ({ frames := 1, cells := 0, slots := 0, locals := 24 }) (gP (dC, dI) (wC ad cA) (kC (dC, dI) cA) c sz [.ref (ad 1)]) (gQv (dC, dI) (wC ad cA) (fA 17 ad sz) c9) 0 0 (fA 17 ad sz) := by
  refine Met.ofW (cc := cX3_freeEmptyBlocks) (maxL := 4) (ret := none) (by decide) rfl ?_
  intro p e s m args below meth cd s₁ B hml hv
  obtain ⟨rfl, rfl, hP, hK⟩ := hv
  have hx := B.exec
  have hb := B.bytes
  have hr := B.returns
  have hts := atoms_spec (ws := wsX3_freeEmptyBlocks) B.pre
  have hown : s.vm.findClass RX3 = some m.cls := findClass_of_methodNamed B.named
  have hlocks := B.notSynchronized
  have hK1 : va_K (dC, dI) vwCl (tC cA) s := hK.1
  have hD : ∀ c, va_D (fA 17 ad s.heap.size) (wC ad cA c) := fun c => dC_ok hap cA c _
  have hS : va_S (fA 17 ad s.heap.size) s.heap s.heap [] := va_S.rf
  have i3 : ∀ w ∈ u_ws RX3 TX3 9, w ∈ wsX3_freeEmptyBlocks := by decide +kernel
  have f9 := hts (.fieldLink RX3 9 "StickyHeap$Space" "sort" "[I") (by decide +kernel)
  have f33 := hts (.fieldLink RX3 33 "StickyHeap$Space" "blocks" "I") (by decide +kernel)
  have L2 : ∀ (n : Nat) (c : HS) (v1 : Int32) (H : Heap) (locs : List Loc) (ls : Array Slot), pX3_freeEmptyBlocks_2 n c v1 = some c9 → va_P (dC, dI) vwCl (wC ad cA c) H → va_S (fA 17 ad s.heap.size) s.heap H locs → lv_has ls 4 [(0, .ref (ad 1)), (1, .int v1)] → W p l e (headSpec wsX3_freeEmptyBlocks ({ frames := 1, cells := 0, slots := 0, locals := 24 })).room s m ([.ref (ad 1)]).toArray below meth cd H locs 0 0 (MQ below (gQv (dC, dI) (wC ad cA) (fA 17 ad s.heap.size) c9) ([.ref (ad 1)]).toArray s 0 0 (fA 17 ad s.heap.size)) (F0 m 2 ls []) := by
    intro n
    induction n with
    | zero =>
      intro c v1 H locs ls hM
      exact absurd (Eq.symm (hM : none = some c9)) sm_ne
    | succ n2 ih2 =>
      have L29 : ∀ (c : HS) (v1 : Int32) (s0 : Int32) (H : Heap) (locs : List Loc) (ls : Array Slot), pX3_freeEmptyBlocks_29 (pX3_freeEmptyBlocks_2 n2) c v1 s0 = some c9 → va_P (dC, dI) vwCl (wC ad cA c) H → va_S (fA 17 ad s.heap.size) s.heap H locs → lv_has ls 4 [(0, .ref (ad 1)), (1, .int v1)] → W p l e (headSpec wsX3_freeEmptyBlocks ({ frames := 1, cells := 0, slots := 0, locals := 24 })).room s m ([.ref (ad 1)]).toArray below meth cd H locs 0 0 (MQ below (gQv (dC, dI) (wC ad cA) (fA 17 ad s.heap.size) c9) ([.ref (ad 1)]).toArray s 0 0 (fA 17 ad s.heap.size)) (F0 m 29 ls [.int s0]) := by
        have L67 : ∀ (c : HS) (v1 : Int32) (s0 : Int32) (H : Heap) (locs : List Loc) (ls : Array Slot), pX3_freeEmptyBlocks_67 (pX3_freeEmptyBlocks_2 n2) c v1 s0 = some c9 → va_P (dC, dI) vwCl (wC ad cA c) H → va_S (fA 17 ad s.heap.size) s.heap H locs → lv_has ls 4 [(0, .ref (ad 1)), (1, .int v1)] → W p l e (headSpec wsX3_freeEmptyBlocks ({ frames := 1, cells := 0, slots := 0, locals := 24 })).room s m ([.ref (ad 1)]).toArray below meth cd H locs 0 0 (MQ below (gQv (dC, dI) (wC ad cA) (fA 17 ad s.heap.size) c9) ([.ref (ad 1)]).toArray s 0 0 (fA 17 ad s.heap.size)) (F0 m 67 ls [.int s0]) := by
          intro c v1 s0 H locs ls hM hP hS hl
          unfold pX3_freeEmptyBlocks_67 at hM
          refine lv_istore_n (lv' := [(3, .int s0), (0, .ref (ad 1)), (1, .int v1)]) hx hb dX3_freeEmptyBlocks_67 rfl hl (by decide) rfl (fun ls hl => ?_)
          refine lv_iload_n hx hb dX3_freeEmptyBlocks_68 rfl (lv_at hl 0 rfl) ?_
          refine lv_if_eq (tgt := 79) hx hb dX3_freeEmptyBlocks_69 (by decide) (fun e3 => ?_) (fun e3 => ?_)
          · have hM := it_p e3 hM
            refine lv_iinc (v := v1 + 1) (lv' := [(1, .int (v1 + 1)), (3, .int s0), (0, .ref (ad 1))]) hx hb dX3_freeEmptyBlocks_79 hl (k := 2) rfl rfl (by decide) rfl (fun ls hl => ?_)
            refine lv_goto (tgt := 2) hx hb dX3_freeEmptyBlocks_82 (by decide) ?_
            exact ih2 _ _ _ _ _ hM hP hS (lv_sub hl [2, 0] rfl)
          · have hM := it_n e3 hM
            refine lv_aload_n hx hb dX3_freeEmptyBlocks_72 rfl (lv_at hl 1 rfl) ?_
            refine lv_iload_n hx hb dX3_freeEmptyBlocks_73 rfl (lv_at hl 2 rfl) ?_
            refine lv_iconst (v := 0) hx hb dX3_freeEmptyBlocks_74 (by decide) ?_
            refine lv_iconst (v := 0) hx hb dX3_freeEmptyBlocks_75 (by decide) ?_
            obtain ⟨c2, h1, hM⟩ := bd1_some sm_ne hM
            refine gCv (gV (As := [.int v1, .int 0, .int 0]) (rest := []) ⟨hx, hb, hml, hown, hts⟩ (kX3_turn l dC dI ad cA hap _ c v1 0 0 _ h1) (cwV 3 hts gX3_freeEmptyBlocks_X3_turn rfl rfl rfl (by decide +kernel) ⟨Nat.le_of_ble_eq_true rfl, Nat.le_of_ble_eq_true rfl⟩) (kC_st _ _) hK hP (va_recv hK1 hP (ci := 3) (q0 := 1) rfl rfl) rfl hl.1 rfl (Nat.le_of_ble_eq_true rfl) dX3_freeEmptyBlocks_76 ⟨Nat.zero_le _, Nat.zero_le _⟩) hS (fun H locs hP hS => ?_)
            refine lv_iinc (v := v1 + 1) (lv' := [(1, .int (v1 + 1)), (3, .int s0), (0, .ref (ad 1))]) hx hb dX3_freeEmptyBlocks_79 hl (k := 2) rfl rfl (by decide) rfl (fun ls hl => ?_)
            refine lv_goto (tgt := 2) hx hb dX3_freeEmptyBlocks_82 (by decide) ?_
            exact ih2 _ _ _ _ _ hM hP hS (lv_sub hl [2, 0] rfl)
        intro c v1 s0 H locs ls hM hP hS hl
        unfold pX3_freeEmptyBlocks_29 at hM
        refine lv_istore_n (lv' := [(2, .int s0), (0, .ref (ad 1)), (1, .int v1)]) hx hb dX3_freeEmptyBlocks_29 rfl hl (by decide) rfl (fun ls hl => ?_)
        refine lv_iload_n hx hb dX3_freeEmptyBlocks_30 rfl (lv_at hl 0 rfl) ?_
        refine lv_if_eq (tgt := 53) hx hb dX3_freeEmptyBlocks_31 (by decide) (fun e10 => ?_) (fun e10 => ?_)
        · have hM := it_p e10 hM
          refine lv_aload_n hx hb dX3_freeEmptyBlocks_53 rfl (lv_at hl 1 rfl) ?_
          refine lv_iload_n hx hb dX3_freeEmptyBlocks_54 rfl (lv_at hl 2 rfl) ?_
          refine lv_iconst (v := 1) hx hb dX3_freeEmptyBlocks_55 (by decide) ?_
          obtain ⟨r5, h4, hM⟩ := bd1_some sm_ne hM
          refine gCi (gV (As := [.int v1, .int 1]) (rest := []) ⟨hx, hb, hml, hown, hts⟩ (kX3_thingsIn l dC dI ad cA hap _ c v1 1 _ h4) (cwV 2 hts gX3_freeEmptyBlocks_X3_thingsIn rfl rfl rfl (by decide +kernel) ⟨Nat.le_of_ble_eq_true rfl, Nat.le_of_ble_eq_true rfl⟩) (kC_st _ _) hK hP (va_recv hK1 hP (ci := 3) (q0 := 1) rfl rfl) rfl hl.1 rfl (Nat.le_of_ble_eq_true rfl) dX3_freeEmptyBlocks_56 ⟨Nat.zero_le _, Nat.zero_le _⟩) hS (fun H locs hP hS => ?_)
          refine lv_if_ne (tgt := 66) hx hb dX3_freeEmptyBlocks_59 (by decide) (fun e6 => ?_) (fun e6 => ?_)
          · have hM := it_n e6 hM
            refine lv_iconst (v := 0) hx hb dX3_freeEmptyBlocks_66 (by decide) ?_
            exact L67 _ _ _ _ _ _ hM hP hS (lv_sub hl [1, 2] rfl)
          · have hM := it_p e6 hM
            refine lv_iconst (v := 1) hx hb dX3_freeEmptyBlocks_62 (by decide) ?_
            refine lv_goto (tgt := 67) hx hb dX3_freeEmptyBlocks_63 (by decide) ?_
            exact L67 _ _ _ _ _ _ hM hP hS (lv_sub hl [1, 2] rfl)
        · have hM := it_n e10 hM
          refine lv_aload_n hx hb dX3_freeEmptyBlocks_34 rfl (lv_at hl 1 rfl) ?_
          refine gget (v := .ref (ad 5)) hx hb hts i3 hown hK1 hP 1 rfl rfl 2 (by decide) f9 rfl rfl dX3_freeEmptyBlocks_35 ?_
          refine lv_iload_n hx hb dX3_freeEmptyBlocks_38 rfl (lv_at hl 2 rfl) ?_
          refine lv_iconst (v := 1) hx hb dX3_freeEmptyBlocks_39 (by decide) ?_
          refine lv_isub hx hb dX3_freeEmptyBlocks_40 ?_
          obtain ⟨h8, x7, hx7, hM⟩ := ldA_some sm_ne hM
          refine gald hx hb hK1 hP 5 0 rfl rfl h8 hx7 dX3_freeEmptyBlocks_41 ?_
          refine lv_if_ne (tgt := 49) hx hb dX3_freeEmptyBlocks_42 (by decide) (fun e9 => ?_) (fun e9 => ?_)
          · have hM := it_n e9 hM
            refine lv_iconst (v := 0) hx hb dX3_freeEmptyBlocks_49 (by decide) ?_
            refine lv_goto (tgt := 67) hx hb dX3_freeEmptyBlocks_50 (by decide) ?_
            exact L67 _ _ _ _ _ _ hM hP hS (lv_sub hl [1, 2] rfl)
          · have hM := it_p e9 hM
            refine lv_iconst (v := 1) hx hb dX3_freeEmptyBlocks_45 (by decide) ?_
            refine lv_goto (tgt := 67) hx hb dX3_freeEmptyBlocks_46 (by decide) ?_
            exact L67 _ _ _ _ _ _ hM hP hS (lv_sub hl [1, 2] rfl)
      intro c v1 H locs ls hM hP hS hl
      unfold pX3_freeEmptyBlocks_2 at hM
      refine lv_iload_n hx hb dX3_freeEmptyBlocks_2 rfl (lv_at hl 1 rfl) ?_
      refine lv_aload_n hx hb dX3_freeEmptyBlocks_3 rfl (lv_at hl 0 rfl) ?_
      refine gget (v := .int (c.1 0 0)) hx hb hts i3 hown hK1 hP 1 rfl rfl 0 (by decide) f33 rfl rfl dX3_freeEmptyBlocks_4 ?_
      refine lv_icmp_ge (tgt := 85) hx hb dX3_freeEmptyBlocks_7 (by decide) (fun e15 => ?_) (fun e15 => ?_)
      · have hM := it_p e15 hM
        exact W.vret hx hb hr (fun t ht hW => ⟨⟨_, rfl, pr1 hM, hPt ht hP⟩, hS.F ht⟩) hS.2.2 dX3_freeEmptyBlocks_85
      · have hM := it_n e15 hM
        refine lv_iload_n hx hb dX3_freeEmptyBlocks_10 rfl (lv_at hl 1 rfl) ?_
        refine lv_if_le (tgt := 28) hx hb dX3_freeEmptyBlocks_11 (by decide) (fun e14 => ?_) (fun e14 => ?_)
        · have hM := it_p e14 hM
          refine lv_iconst (v := 0) hx hb dX3_freeEmptyBlocks_28 (by decide) ?_
          exact L29 _ _ _ _ _ _ hM hP hS (lv_sub hl [0, 1] rfl)
        · have hM := it_n e14 hM
          refine lv_aload_n hx hb dX3_freeEmptyBlocks_14 rfl (lv_at hl 0 rfl) ?_
          refine gget (v := .ref (ad 5)) hx hb hts i3 hown hK1 hP 1 rfl rfl 2 (by decide) f9 rfl rfl dX3_freeEmptyBlocks_15 ?_
          refine lv_iload_n hx hb dX3_freeEmptyBlocks_18 rfl (lv_at hl 1 rfl) ?_
          obtain ⟨h12, x11, hx11, hM⟩ := ldA_some sm_ne hM
          refine gald hx hb hK1 hP 5 0 rfl rfl h12 hx11 dX3_freeEmptyBlocks_19 ?_
          refine lv_iconst (v := 3) hx hb dX3_freeEmptyBlocks_20 (by decide) ?_
          refine lv_icmp_ne (tgt := 28) hx hb dX3_freeEmptyBlocks_21 (by decide) (fun e13 => ?_) (fun e13 => ?_)
          · have hM := it_n e13 hM
            refine lv_iconst (v := 0) hx hb dX3_freeEmptyBlocks_28 (by decide) ?_
            exact L29 _ _ _ _ _ _ hM hP hS (lv_sub hl [0, 1] rfl)
          · have hM := it_p e13 hM
            refine lv_iconst (v := 1) hx hb dX3_freeEmptyBlocks_24 (by decide) ?_
            refine lv_goto (tgt := 29) hx hb dX3_freeEmptyBlocks_25 (by decide) ?_
            exact L29 _ _ _ _ _ _ hM hP hS (lv_sub hl [0, 1] rfl)
  have hl := lv_entry [.ref (ad 1)] (n := 4) (Nat.le_of_ble_eq_true rfl)
  rw [lg_entry_eq]
  generalize (lg_sl [.ref (ad 1)] ++ List.replicate (4 - (lg_sl [.ref (ad 1)]).length) Slot.unset).toArray = ls at hl ⊢
  have hl : lv_has ls 4 [(0, .ref (ad 1))] := hl
  have hP : va_P (dC, dI) vwCl (wC ad cA c) s.heap := hP
  unfold pX3_freeEmptyBlocks at hM
  refine lv_iconst (v := 0) hx hb dX3_freeEmptyBlocks_0 (by decide) ?_
  refine lv_istore_n (lv' := [(1, .int 0), (0, .ref (ad 1))]) hx hb dX3_freeEmptyBlocks_1 rfl hl (by decide) rfl (fun ls hl => ?_)
  exact L2 _ _ _ _ _ _ hM hP hS (lv_sub hl [1, 0] rfl)
set_option maxHeartbeats 4000000 in
set_option maxRecDepth 100000 in
theorem kX3_barBy (l : Launch) (dC : Nat → ClassId) (dI : Nat → Nat → Nat) (ad : Nat → Nat) (cA : Nat → ClassId) (hap : apart 17 ad) (sz : Nat) (c : HS) (a2 : Int32) (c9 : HS) (hM : pX3_barBy c a2 = some c9) : Met l yX3_barBy wsX3_barBy ({ frames := 0, cells := 0, slots := 0, locals := 0 }) (gP (dC, dI) (wC ad cA) (kC (dC, dI) cA) c sz [.ref (ad 1), .ref (ad 15), .int a2]) (gQv (dC, dI) (wC ad cA) (fA 17 ad sz) c9) 0 0 (fA 17 ad sz) := by
  refine Met.ofW (cc := cX3_barBy) (maxL := 5) (ret := none) (by decide) rfl ?_
  intro p e s m args below meth cd s₁ B hml hv
  obtain ⟨rfl, rfl, hP, hK⟩ := hv
  have hx := B.exec
  have hb := B.bytes
  have hr := B.returns
  have hts := atoms_spec (ws := wsX3_barBy) B.pre
  have hown : s.vm.findClass RX3 = some m.cls := findClass_of_methodNamed B.named
  have hlocks := B.notSynchronized
  have hK1 : va_K (dC, dI) vwCl (tC cA) s := hK.1
  have hD : ∀ c, va_D (fA 17 ad s.heap.size) (wC ad cA c) := fun c => dC_ok hap cA c _
  have hS : va_S (fA 17 ad s.heap.size) s.heap s.heap [] := va_S.rf
  have i3 : ∀ w ∈ u_ws RX3 TX3 9, w ∈ wsX3_barBy := by decide +kernel
  have f9 := hts (.fieldLink RX3 9 "StickyHeap$Space" "sort" "[I") (by decide +kernel)
  have f18 := hts (.fieldLink RX3 18 "StickyHeap$Space" "barred" "[I") (by decide +kernel)
  have f33 := hts (.fieldLink RX3 33 "StickyHeap$Space" "blocks" "I") (by decide +kernel)
  have f37 := hts (.fieldLink RX3 37 "StickyHeap$Space" "limit" "I") (by decide +kernel)
  have L2 : ∀ (n : Nat) (c : HS) (v2 : Int32) (v3 : Int32) (H : Heap) (locs : List Loc) (ls : Array Slot), pX3_barBy_2 n c v2 v3 = some c9 → va_P (dC, dI) vwCl (wC ad cA c) H → va_S (fA 17 ad s.heap.size) s.heap H locs → lv_has ls 5 [(0, .ref (ad 1)), (1, .ref (ad 15)), (2, .int v2), (3, .int v3)] → W p l e (headSpec wsX3_barBy ({ frames := 0, cells := 0, slots := 0, locals := 0 })).room s m ([.ref (ad 1), .ref (ad 15), .int a2]).toArray below meth cd H locs 0 0 (MQ below (gQv (dC, dI) (wC ad cA) (fA 17 ad s.heap.size) c9) ([.ref (ad 1), .ref (ad 15), .int a2]).toArray s 0 0 (fA 17 ad s.heap.size)) (F0 m 2 ls []) := by
    intro n
    induction n with
    | zero =>
      intro c v2 v3 H locs ls hM
      exact absurd (Eq.symm (hM : none = some c9)) sm_ne
    | succ n2 ih2 =>
      have L25 : ∀ (n : Nat) (c : HS) (v2 : Int32) (v3 : Int32) (H : Heap) (locs : List Loc) (ls : Array Slot), pX3_barBy_25 n c v2 v3 = some c9 → va_P (dC, dI) vwCl (wC ad cA c) H → va_S (fA 17 ad s.heap.size) s.heap H locs → lv_has ls 5 [(0, .ref (ad 1)), (1, .ref (ad 15)), (2, .int v2), (3, .int v3)] → W p l e (headSpec wsX3_barBy ({ frames := 0, cells := 0, slots := 0, locals := 0 })).room s m ([.ref (ad 1), .ref (ad 15), .int a2]).toArray below meth cd H locs 0 0 (MQ below (gQv (dC, dI) (wC ad cA) (fA 17 ad s.heap.size) c9) ([.ref (ad 1), .ref (ad 15), .int a2]).toArray s 0 0 (fA 17 ad s.heap.size)) (F0 m 25 ls []) := by
        intro n
        induction n with
        | zero =>
          intro c v2 v3 H locs ls hM
          exact absurd (Eq.symm (hM : none = some c9)) sm_ne
        | succ n25 ih25 =>
          intro c v2 v3 H locs ls hM hP hS hl
          unfold pX3_barBy_25 at hM
          refine lv_iload_n hx hb dX3_barBy_25 rfl (lv_at hl 3 rfl) ?_
          refine lv_iload_n hx hb dX3_barBy_26 rfl (lv_at hl 2 rfl) ?_
          refine lv_icmp_ge (tgt := 88) hx hb dX3_barBy_27 (by decide) (fun e11 => ?_) (fun e11 => ?_)
          · have hM := it_p e11 hM
            exact W.vret hx hb hr (fun t ht hW => ⟨⟨_, rfl, pr1 hM, hPt ht hP⟩, hS.F ht⟩) hS.2.2 dX3_barBy_88
          · have hM := it_n e11 hM
            refine lv_iload_n hx hb dX3_barBy_30 rfl (lv_at hl 3 rfl) ?_
            refine lv_aload_n hx hb dX3_barBy_31 rfl (lv_at hl 1 rfl) ?_
            refine va_alen (v := 24) hx hb hK1 hP 15 10 rfl rfl rfl dX3_barBy_32 ?_
            refine lv_icmp_ge (tgt := 88) hx hb dX3_barBy_33 (by decide) (fun e10 => ?_) (fun e10 => ?_)
            · have hM := it_p e10 hM
              exact W.vret hx hb hr (fun t ht hW => ⟨⟨_, rfl, pr1 hM, hPt ht hP⟩, hS.F ht⟩) hS.2.2 dX3_barBy_88
            · have hM := it_n e10 hM
              refine lv_aload_n hx hb dX3_barBy_36 rfl (lv_at hl 1 rfl) ?_
              refine lv_iload_n hx hb dX3_barBy_37 rfl (lv_at hl 3 rfl) ?_
              obtain ⟨h2, x1, hx1, hM⟩ := ldA_some sm_ne hM
              refine gald hx hb hK1 hP 15 10 rfl rfl h2 hx1 dX3_barBy_38 ?_
              refine lv_istore (lv' := [(4, .int x1), (0, .ref (ad 1)), (1, .ref (ad 15)), (2, .int v2), (3, .int v3)]) hx hb dX3_barBy_39 hl (by decide) rfl (fun ls hl => ?_)
              refine lv_iload hx hb dX3_barBy_41 (lv_at hl 0 rfl) ?_
              refine lv_if_lt (tgt := 82) hx hb dX3_barBy_43 (by decide) (fun e9 => ?_) (fun e9 => ?_)
              · have hM := it_p e9 hM
                refine lv_iinc (v := v3 + 1) (lv' := [(3, .int (v3 + 1)), (4, .int x1), (0, .ref (ad 1)), (1, .ref (ad 15)), (2, .int v2)]) hx hb dX3_barBy_82 hl (k := 4) rfl rfl (by decide) rfl (fun ls hl => ?_)
                refine lv_goto (tgt := 25) hx hb dX3_barBy_85 (by decide) ?_
                exact ih25 _ _ _ _ _ _ hM hP hS (lv_sub hl [2, 3, 4, 0] rfl)
              · have hM := it_n e9 hM
                refine lv_iload hx hb dX3_barBy_46 (lv_at hl 0 rfl) ?_
                refine lv_aload_n hx hb dX3_barBy_48 rfl (lv_at hl 1 rfl) ?_
                refine gget (v := .int (c.1 0 1)) hx hb hts i3 hown hK1 hP 1 rfl rfl 1 (by decide) f37 rfl rfl dX3_barBy_49 ?_
                refine lv_icmp_lt (tgt := 58) hx hb dX3_barBy_52 (by decide) (fun e8 => ?_) (fun e8 => ?_)
                · have hM := it_p e8 hM
                  refine lv_aload_n hx hb dX3_barBy_58 rfl (lv_at hl 1 rfl) ?_
                  refine gget (v := .ref (ad 5)) hx hb hts i3 hown hK1 hP 1 rfl rfl 2 (by decide) f9 rfl rfl dX3_barBy_59 ?_
                  refine lv_iload hx hb dX3_barBy_62 (lv_at hl 0 rfl) ?_
                  refine lv_bipush (v := 64) hx hb dX3_barBy_64 (by decide) ?_
                  refine lv_idiv hx hb dX3_barBy_66 (by decide) ?_
                  obtain ⟨h4, x3, hx3, hM⟩ := ldA_some sm_ne hM
                  refine gald hx hb hK1 hP 5 0 rfl rfl h4 hx3 dX3_barBy_67 ?_
                  refine lv_if_ne (tgt := 82) hx hb dX3_barBy_68 (by decide) (fun e7 => ?_) (fun e7 => ?_)
                  · have hM := it_n e7 hM
                    refine lv_iinc (v := v3 + 1) (lv' := [(3, .int (v3 + 1)), (4, .int x1), (0, .ref (ad 1)), (1, .ref (ad 15)), (2, .int v2)]) hx hb dX3_barBy_82 hl (k := 4) rfl rfl (by decide) rfl (fun ls hl => ?_)
                    refine lv_goto (tgt := 25) hx hb dX3_barBy_85 (by decide) ?_
                    exact ih25 _ _ _ _ _ _ hM hP hS (lv_sub hl [2, 3, 4, 0] rfl)
                  · have hM := it_p e7 hM
                    refine lv_aload_n hx hb dX3_barBy_71 rfl (lv_at hl 1 rfl) ?_
                    refine gget (v := .ref (ad 7)) hx hb hts i3 hown hK1 hP 1 rfl rfl 4 (by decide) f18 rfl rfl dX3_barBy_72 ?_
                    refine lv_iload hx hb dX3_barBy_75 (lv_at hl 0 rfl) ?_
                    refine lv_bipush (v := 64) hx hb dX3_barBy_77 (by decide) ?_
                    refine lv_idiv hx hb dX3_barBy_79 (by decide) ?_
                    refine lv_iconst (v := 1) hx hb dX3_barBy_80 (by decide) ?_
                    obtain ⟨h6, c5, hc5, hM⟩ := stA_some sm_ne hM
                    refine gast (w := wC ad cA) (c := c) (c1 := c5) hx hb hK1 hP (hD c) hS 7 2 rfl rfl h6 (by rw [hc5]; rfl) dX3_barBy_81 (fun H locs hP hS => ?_)
                    refine lv_iinc (v := v3 + 1) (lv' := [(3, .int (v3 + 1)), (4, .int x1), (0, .ref (ad 1)), (1, .ref (ad 15)), (2, .int v2)]) hx hb dX3_barBy_82 hl (k := 4) rfl rfl (by decide) rfl (fun ls hl => ?_)
                    refine lv_goto (tgt := 25) hx hb dX3_barBy_85 (by decide) ?_
                    exact ih25 _ _ _ _ _ _ hM hP hS (lv_sub hl [2, 3, 4, 0] rfl)
                · have hM := it_n e8 hM
                  refine lv_goto (tgt := 82) hx hb dX3_barBy_55 (by decide) ?_
                  refine lv_iinc (v := v3 + 1) (lv' := [(3, .int (v3 + 1)), (4, .int x1), (0, .ref (ad 1)), (1, .ref (ad 15)), (2, .int v2)]) hx hb dX3_barBy_82 hl (k := 4) rfl rfl (by decide) rfl (fun ls hl => ?_)
                  refine lv_goto (tgt := 25) hx hb dX3_barBy_85 (by decide) ?_
                  exact ih25 _ _ _ _ _ _ hM hP hS (lv_sub hl [2, 3, 4, 0] rfl)
      intro c v2 v3 H locs ls hM hP hS hl
      unfold pX3_barBy_2 at hM
      refine lv_iload_n hx hb dX3_barBy_2 rfl (lv_at hl 3 rfl) ?_
      refine lv_aload_n hx hb dX3_barBy_3 rfl (lv_at hl 0 rfl) ?_
      refine gget (v := .int (c.1 0 0)) hx hb hts i3 hown hK1 hP 1 rfl rfl 0 (by decide) f33 rfl rfl dX3_barBy_4 ?_
      refine lv_icmp_ge (tgt := 23) hx hb dX3_barBy_7 (by decide) (fun e14 => ?_) (fun e14 => ?_)
      · have hM := it_p e14 hM
        refine lv_iconst (v := 0) hx hb dX3_barBy_23 (by decide) ?_
        refine lv_istore_n (lv' := [(3, .int 0), (0, .ref (ad 1)), (1, .ref (ad 15)), (2, .int v2)]) hx hb dX3_barBy_24 rfl hl (by decide) rfl (fun ls hl => ?_)
        exact L25 _ _ _ _ _ _ _ hM hP hS (lv_sub hl [1, 2, 3, 0] rfl)
      · have hM := it_n e14 hM
        refine lv_aload_n hx hb dX3_barBy_10 rfl (lv_at hl 0 rfl) ?_
        refine gget (v := .ref (ad 7)) hx hb hts i3 hown hK1 hP 1 rfl rfl 4 (by decide) f18 rfl rfl dX3_barBy_11 ?_
        refine lv_iload_n hx hb dX3_barBy_14 rfl (lv_at hl 3 rfl) ?_
        refine lv_iconst (v := 0) hx hb dX3_barBy_15 (by decide) ?_
        obtain ⟨h13, c12, hc12, hM⟩ := stA_some sm_ne hM
        refine gast (w := wC ad cA) (c := c) (c1 := c12) hx hb hK1 hP (hD c) hS 7 2 rfl rfl h13 (by rw [hc12]; rfl) dX3_barBy_16 (fun H locs hP hS => ?_)
        refine lv_iinc (v := v3 + 1) (lv' := [(3, .int (v3 + 1)), (0, .ref (ad 1)), (1, .ref (ad 15)), (2, .int v2)]) hx hb dX3_barBy_17 hl (k := 3) rfl rfl (by decide) rfl (fun ls hl => ?_)
        refine lv_goto (tgt := 2) hx hb dX3_barBy_20 (by decide) ?_
        exact ih2 _ _ _ _ _ _ hM hP hS (lv_sub hl [1, 2, 3, 0] rfl)
  have hl := lv_entry [.ref (ad 1), .ref (ad 15), .int a2] (n := 5) (Nat.le_of_ble_eq_true rfl)
  rw [lg_entry_eq]
  generalize (lg_sl [.ref (ad 1), .ref (ad 15), .int a2] ++ List.replicate (5 - (lg_sl [.ref (ad 1), .ref (ad 15), .int a2]).length) Slot.unset).toArray = ls at hl ⊢
  have hl : lv_has ls 5 [(0, .ref (ad 1)), (1, .ref (ad 15)), (2, .int a2)] := hl
  have hP : va_P (dC, dI) vwCl (wC ad cA c) s.heap := hP
  unfold pX3_barBy at hM
  refine lv_iconst (v := 0) hx hb dX3_barBy_0 (by decide) ?_
  refine lv_istore_n (lv' := [(3, .int 0), (0, .ref (ad 1)), (1, .ref (ad 15)), (2, .int a2)]) hx hb dX3_barBy_1 rfl hl (by decide) rfl (fun ls hl => ?_)
  exact L2 _ _ _ _ _ _ _ hM hP hS (lv_sub hl [1, 2, 3, 0] rfl)
set_option maxHeartbeats 4000000 in
set_option maxRecDepth 100000 in
theorem kX0_end (l : Launch) (dC : Nat → ClassId) (dI : Nat → Nat → Nat) (ad : Nat → Nat) (cA : Nat → ClassId) (hap : apart 17 ad) (sz : Nat) (c : HS) (r0 : Int32) (c9 : HS) (hM : pX0_end c = some (r0, c9)) : Met l yX0_end wsX0_end ({ frames := 2, cells := 0, slots := 0, locals := 47 }) (gP (dC, dI) (wC ad cA) (kC (dC, dI) cA) c sz [.ref (ad 4)]) (gQi (dC, dI) (wC ad cA) (fA 17 ad sz) r0 c9) 0 0 (fA 17 ad sz) := by
  refine Met.ofW (cc := cX0_end) (maxL := 2) (ret := (some .int)) (by decide) rfl ?_
  intro p e s m args below meth cd s₁ B hml hv
  obtain ⟨rfl, rfl, hP, hK⟩ := hv
  have hx := B.exec
  have hb := B.bytes
  have hr := B.returns
  have hts := atoms_spec (ws := wsX0_end) B.pre
  have hown : s.vm.findClass RX0 = some m.cls := findClass_of_methodNamed B.named
  have hlocks := B.notSynchronized
  have hK1 : va_K (dC, dI) vwCl (tC cA) s := hK.1
  have hD : ∀ c, va_D (fA 17 ad s.heap.size) (wC ad cA c) := fun c => dC_ok hap cA c _
  have hS : va_S (fA 17 ad s.heap.size) s.heap s.heap [] := va_S.rf
  have i0 : ∀ w ∈ u_ws RX0 TX0 9, w ∈ wsX0_end := by decide +kernel
  have i1 : ∀ w ∈ u_ws RX1 TX1 3, w ∈ wsX0_end := by decide +kernel
  have f15 := hts (.fieldLink RX0 15 "StickyHeap$Collector" "space" "LStickyHeap$Space;") (by decide +kernel)
  have f19 := hts (.fieldLink RX0 19 "StickyHeap$Collector" "memory" "LStickyHeap$Memory;") (by decide +kernel)
  have f23 := hts (.fieldLink RX0 23 "StickyHeap$Collector" "holders" "LStickyHeap$Holders;") (by decide +kernel)
  have f64 := hts (.fieldLink RX0 64 "StickyHeap$Holders" "height" "I") (by decide +kernel)
  have f67 := hts (.fieldLink RX0 67 "StickyHeap$Holders" "stack" "[I") (by decide +kernel)
  have f105 := hts (.fieldLink RX0 105 "StickyHeap$Collector" "gone" "I") (by decide +kernel)
  have hl := lv_entry [.ref (ad 4)] (n := 2) (Nat.le_of_ble_eq_true rfl)
  rw [lg_entry_eq]
  generalize (lg_sl [.ref (ad 4)] ++ List.replicate (2 - (lg_sl [.ref (ad 4)]).length) Slot.unset).toArray = ls at hl ⊢
  have hl : lv_has ls 2 [(0, .ref (ad 4))] := hl
  have hP : va_P (dC, dI) vwCl (wC ad cA c) s.heap := hP
  unfold pX0_end at hM
  refine lv_aload_n hx hb dX0_end_0 rfl (lv_at hl 0 rfl) ?_
  refine gget (v := .ref (ad 1)) hx hb hts i0 hown hK1 hP 4 rfl rfl 0 (by decide) f15 rfl rfl dX0_end_1 ?_
  obtain ⟨r3, c2, h1, hM⟩ := bd2_some sm_ne hM
  refine gCi (gV (As := []) (rest := []) ⟨hx, hb, hml, hown, hts⟩ (kX3_sweep l dC dI ad cA hap _ c _ _ h1) (cwV 0 hts gX0_end_X3_sweep rfl rfl rfl (by decide +kernel) ⟨Nat.le_of_ble_eq_true rfl, Nat.le_of_ble_eq_true rfl⟩) (kC_st _ _) hK hP (va_recv hK1 hP (ci := 3) (q0 := 1) rfl rfl) rfl hl.1 rfl (Nat.le_of_ble_eq_true rfl) dX0_end_4 ⟨Nat.zero_le _, Nat.zero_le _⟩) hS (fun H locs hP hS => ?_)
  refine lv_istore_n (lv' := [(1, .int r3), (0, .ref (ad 4))]) hx hb dX0_end_7 rfl hl (by decide) rfl (fun ls hl => ?_)
  refine lv_aload_n hx hb dX0_end_8 rfl (lv_at hl 1 rfl) ?_
  refine lv_dup hx hb dX0_end_9 rfl ?_
  refine gget (v := .int (c2.1 0 7)) hx hb hts i0 hown hK1 hP 4 rfl rfl 5 (by decide) f105 rfl rfl dX0_end_10 ?_
  refine lv_iload_n hx hb dX0_end_13 rfl (lv_at hl 0 rfl) ?_
  refine lv_iadd hx hb dX0_end_14 ?_
  obtain ⟨c4, hc4, hM⟩ := pfA_some hM
  refine gput (w := wC ad cA) (c := c2) (c1 := c4) (v := .int ((c2.1 0 7) + r3)) hx hb hts i0 tyX0 tyX0_ok nmX0 hown hK1 hP (hD c2) hS 4 rfl rfl 5 (by decide) f105 rfl rfl rfl rfl (Nat.le_of_ble_eq_true rfl) (by rw [hc4]; rfl) dX0_end_15 (fun H locs hP hS => ?_)
  refine lv_aload_n hx hb dX0_end_18 rfl (lv_at hl 1 rfl) ?_
  refine gget (v := .ref (ad 2)) hx hb hts i0 hown hK1 hP 4 rfl rfl 1 (by decide) f19 rfl rfl dX0_end_19 ?_
  obtain ⟨c6, h5, hM⟩ := bd1_some sm_ne hM
  refine gCv (gV (As := []) (rest := []) ⟨hx, hb, hml, hown, hts⟩ (kX2_forget l dC dI ad cA hap _ c4 _ h5) (cwV 0 hts gX0_end_X2_forget rfl rfl rfl (by decide +kernel) ⟨Nat.le_of_ble_eq_true rfl, Nat.le_of_ble_eq_true rfl⟩) (kC_st _ _) hK hP (va_recv hK1 hP (ci := 2) (q0 := 2) rfl rfl) rfl hl.1 rfl (Nat.le_of_ble_eq_true rfl) dX0_end_22 ⟨Nat.zero_le _, Nat.zero_le _⟩) hS (fun H locs hP hS => ?_)
  refine lv_aload_n hx hb dX0_end_25 rfl (lv_at hl 1 rfl) ?_
  refine gget (v := .ref (ad 1)) hx hb hts i0 hown hK1 hP 4 rfl rfl 0 (by decide) f15 rfl rfl dX0_end_26 ?_
  obtain ⟨c8, h7, hM⟩ := bd1_some sm_ne hM
  refine gCv (gV (As := []) (rest := []) ⟨hx, hb, hml, hown, hts⟩ (kX3_freeEmptyBlocks l dC dI ad cA hap _ c6 _ h7) (cwV 0 hts gX0_end_X3_freeEmptyBlocks rfl rfl rfl (by decide +kernel) ⟨Nat.le_of_ble_eq_true rfl, Nat.le_of_ble_eq_true rfl⟩) (kC_st _ _) hK hP (va_recv hK1 hP (ci := 3) (q0 := 1) rfl rfl) rfl hl.1 rfl (Nat.le_of_ble_eq_true rfl) dX0_end_29 ⟨Nat.zero_le _, Nat.zero_le _⟩) hS (fun H locs hP hS => ?_)
  refine lv_aload_n hx hb dX0_end_32 rfl (lv_at hl 1 rfl) ?_
  refine gget (v := .ref (ad 1)) hx hb hts i0 hown hK1 hP 4 rfl rfl 0 (by decide) f15 rfl rfl dX0_end_33 ?_
  refine lv_aload_n hx hb dX0_end_36 rfl (lv_at hl 1 rfl) ?_
  refine gget (v := .ref (ad 3)) hx hb hts i0 hown hK1 hP 4 rfl rfl 2 (by decide) f23 rfl rfl dX0_end_37 ?_
  refine gget (v := .ref (ad 15)) hx hb hts i1 hown hK1 hP 3 rfl rfl 1 (by decide) f67 rfl rfl dX0_end_40 ?_
  refine lv_aload_n hx hb dX0_end_43 rfl (lv_at hl 1 rfl) ?_
  refine gget (v := .ref (ad 3)) hx hb hts i0 hown hK1 hP 4 rfl rfl 2 (by decide) f23 rfl rfl dX0_end_44 ?_
  refine gget (v := .int (c8.1 0 5)) hx hb hts i1 hown hK1 hP 3 rfl rfl 2 (by decide) f64 rfl rfl dX0_end_47 ?_
  obtain ⟨c10, h9, hM⟩ := bd1_some sm_ne hM
  refine gCv (gV (As := [.ref (ad 15), .int (c8.1 0 5)]) (rest := []) ⟨hx, hb, hml, hown, hts⟩ (kX3_barBy l dC dI ad cA hap _ c8 (c8.1 0 5) _ h9) (cwV 2 hts gX0_end_X3_barBy rfl rfl rfl (by decide +kernel) ⟨Nat.le_of_ble_eq_true rfl, Nat.le_of_ble_eq_true rfl⟩) (kC_st _ _) hK hP (va_recv hK1 hP (ci := 3) (q0 := 1) rfl rfl) rfl hl.1 rfl (Nat.le_of_ble_eq_true rfl) dX0_end_50 ⟨Nat.zero_le _, Nat.zero_le _⟩) hS (fun H locs hP hS => ?_)
  refine lv_iload_n hx hb dX0_end_53 rfl (lv_at hl 0 rfl) ?_
  exact W.iret hx hb hr (fun t ht hW => ⟨⟨_, _, rfl, pr2 hM, hPt ht hP⟩, hS.F ht⟩) hS.2.2 dX0_end_54
set_option maxHeartbeats 4000000 in
set_option maxRecDepth 100000 in
theorem kX0_collectYoung (l : Launch) (dC : Nat → ClassId) (dI : Nat → Nat → Nat) (ad : Nat → Nat) (cA : Nat → ClassId) (hap : apart 17 ad) (sz : Nat) (c : HS) (r0 : Int32) (c9 : HS) (hM : pX0_collectYoung c = some (r0, c9)) : Met l yX0_collectYoung wsX0_collectYoung ({ frames := 4, cells := 0, slots := 0, locals := 86 }) (gP (dC, dI) (wC ad cA) (kC (dC, dI) cA) c sz [.ref (ad 4)]) (gQi (dC, dI) (wC ad cA) (fA 17 ad sz) r0 c9) 0 0 (fA 17 ad sz) := by
  refine Met.ofW (cc := cX0_collectYoung) (maxL := 1) (ret := (some .int)) (by decide) rfl ?_
  intro p e s m args below meth cd s₁ B hml hv
  obtain ⟨rfl, rfl, hP, hK⟩ := hv
  have hx := B.exec
  have hb := B.bytes
  have hr := B.returns
  have hts := atoms_spec (ws := wsX0_collectYoung) B.pre
  have hown : s.vm.findClass RX0 = some m.cls := findClass_of_methodNamed B.named
  have hlocks := B.notSynchronized
  have hK1 : va_K (dC, dI) vwCl (tC cA) s := hK.1
  have hD : ∀ c, va_D (fA 17 ad s.heap.size) (wC ad cA c) := fun c => dC_ok hap cA c _
  have hS : va_S (fA 17 ad s.heap.size) s.heap s.heap [] := va_S.rf
  have i0 : ∀ w ∈ u_ws RX0 TX0 9, w ∈ wsX0_collectYoung := by decide +kernel
  have f27 := hts (.fieldLink RX0 27 "StickyHeap$Collector" "minors" "I") (by decide +kernel)
  have f31 := hts (.fieldLink RX0 31 "StickyHeap$Collector" "foundCount" "I") (by decide +kernel)
  have hl := lv_entry [.ref (ad 4)] (n := 1) (Nat.le_of_ble_eq_true rfl)
  rw [lg_entry_eq]
  generalize (lg_sl [.ref (ad 4)] ++ List.replicate (1 - (lg_sl [.ref (ad 4)]).length) Slot.unset).toArray = ls at hl ⊢
  have hl : lv_has ls 1 [(0, .ref (ad 4))] := hl
  have hP : va_P (dC, dI) vwCl (wC ad cA c) s.heap := hP
  unfold pX0_collectYoung at hM
  refine lv_aload_n hx hb dX0_collectYoung_0 rfl (lv_at hl 0 rfl) ?_
  refine lv_dup hx hb dX0_collectYoung_1 rfl ?_
  refine gget (v := .int (c.1 0 8)) hx hb hts i0 hown hK1 hP 4 rfl rfl 6 (by decide) f27 rfl rfl dX0_collectYoung_2 ?_
  refine lv_iconst (v := 1) hx hb dX0_collectYoung_5 (by decide) ?_
  refine lv_iadd hx hb dX0_collectYoung_6 ?_
  obtain ⟨c1, hc1, hM⟩ := pfA_some hM
  refine gput (w := wC ad cA) (c := c) (c1 := c1) (v := .int ((c.1 0 8) + 1)) hx hb hts i0 tyX0 tyX0_ok nmX0 hown hK1 hP (hD c) hS 4 rfl rfl 6 (by decide) f27 rfl rfl rfl rfl (Nat.le_of_ble_eq_true rfl) (by rw [hc1]; rfl) dX0_collectYoung_7 (fun H locs hP hS => ?_)
  refine lv_aload_n hx hb dX0_collectYoung_10 rfl (lv_at hl 0 rfl) ?_
  refine lv_iconst (v := 0) hx hb dX0_collectYoung_11 (by decide) ?_
  obtain ⟨c2, hc2, hM⟩ := pfA_some hM
  refine gput (w := wC ad cA) (c := c1) (c1 := c2) (v := .int 0) hx hb hts i0 tyX0 tyX0_ok nmX0 hown hK1 hP (hD c1) hS 4 rfl rfl 4 (by decide) f31 rfl rfl rfl rfl (Nat.le_of_ble_eq_true rfl) (by rw [hc2]; rfl) dX0_collectYoung_12 (fun H locs hP hS => ?_)
  refine lv_aload_n hx hb dX0_collectYoung_15 rfl (lv_at hl 0 rfl) ?_
  obtain ⟨c4, h3, hM⟩ := bd1_some sm_ne hM
  refine gCv (gV (As := []) (rest := []) ⟨hx, hb, hml, hown, hts⟩ (kX0_findHeld l dC dI ad cA hap _ c2 _ h3) (cwV 0 hts gX0_collectYoung_X0_findHeld rfl rfl rfl (by decide +kernel) ⟨Nat.le_of_ble_eq_true rfl, Nat.le_of_ble_eq_true rfl⟩) (kC_st _ _) hK hP (va_recv hK1 hP (ci := 0) (q0 := 4) rfl rfl) rfl hl.1 rfl (Nat.le_of_ble_eq_true rfl) dX0_collectYoung_16 ⟨Nat.zero_le _, Nat.zero_le _⟩) hS (fun H locs hP hS => ?_)
  refine lv_aload_n hx hb dX0_collectYoung_19 rfl (lv_at hl 0 rfl) ?_
  obtain ⟨c6, h5, hM⟩ := bd1_some sm_ne hM
  refine gCv (gV (As := []) (rest := []) ⟨hx, hb, hml, hown, hts⟩ (kX0_findRemembered l dC dI ad cA hap _ c4 _ h5) (cwV 0 hts gX0_collectYoung_X0_findRemembered rfl rfl rfl (by decide +kernel) ⟨Nat.le_of_ble_eq_true rfl, Nat.le_of_ble_eq_true rfl⟩) (kC_st _ _) hK hP (va_recv hK1 hP (ci := 0) (q0 := 4) rfl rfl) rfl hl.1 rfl (Nat.le_of_ble_eq_true rfl) dX0_collectYoung_20 ⟨Nat.zero_le _, Nat.zero_le _⟩) hS (fun H locs hP hS => ?_)
  refine lv_aload_n hx hb dX0_collectYoung_23 rfl (lv_at hl 0 rfl) ?_
  obtain ⟨c8, h7, hM⟩ := bd1_some sm_ne hM
  refine gCv (gV (As := []) (rest := []) ⟨hx, hb, hml, hown, hts⟩ (kX0_findReferred l dC dI ad cA hap _ c6 _ h7) (cwV 0 hts gX0_collectYoung_X0_findReferred rfl rfl rfl (by decide +kernel) ⟨Nat.le_of_ble_eq_true rfl, Nat.le_of_ble_eq_true rfl⟩) (kC_st _ _) hK hP (va_recv hK1 hP (ci := 0) (q0 := 4) rfl rfl) rfl hl.1 rfl (Nat.le_of_ble_eq_true rfl) dX0_collectYoung_24 ⟨Nat.zero_le _, Nat.zero_le _⟩) hS (fun H locs hP hS => ?_)
  refine lv_aload_n hx hb dX0_collectYoung_27 rfl (lv_at hl 0 rfl) ?_
  obtain ⟨r11, c10, h9, hM⟩ := bd2_some sm_ne hM
  refine gCi (gV (As := []) (rest := []) ⟨hx, hb, hml, hown, hts⟩ (kX0_end l dC dI ad cA hap _ c8 _ _ h9) (cwV 0 hts gX0_collectYoung_X0_end rfl rfl rfl (by decide +kernel) ⟨Nat.le_of_ble_eq_true rfl, Nat.le_of_ble_eq_true rfl⟩) (kC_st _ _) hK hP (va_recv hK1 hP (ci := 0) (q0 := 4) rfl rfl) rfl hl.1 rfl (Nat.le_of_ble_eq_true rfl) dX0_collectYoung_28 ⟨Nat.zero_le _, Nat.zero_le _⟩) hS (fun H locs hP hS => ?_)
  exact W.iret hx hb hr (fun t ht hW => ⟨⟨_, _, rfl, pr2 hM, hPt ht hP⟩, hS.F ht⟩) hS.2.2 dX0_collectYoung_31
set_option maxHeartbeats 4000000 in
set_option maxRecDepth 100000 in
theorem kX3_makeAllYoung (l : Launch) (dC : Nat → ClassId) (dI : Nat → Nat → Nat) (ad : Nat → Nat) (cA : Nat → ClassId) (hap : apart 17 ad) (sz : Nat) (c : HS) (c9 : HS) (hM : pX3_makeAllYoung c = some c9) : Met l yX3_makeAllYoung wsX3_makeAllYoung ({ frames := 0, cells := 0, slots := 0, locals := 0 }) (gP (dC, dI) (wC ad cA) (kC (dC, dI) cA) c sz [.ref (ad 1)]) (gQv (dC, dI) (wC ad cA) (fA 17 ad sz) c9) 0 0 (fA 17 ad sz) := by
  refine Met.ofW (cc := cX3_makeAllYoung) (maxL := 2) (ret := none) (by decide) rfl ?_
  intro p e s m args below meth cd s₁ B hml hv
  obtain ⟨rfl, rfl, hP, hK⟩ := hv
  have hx := B.exec
  have hb := B.bytes
  have hr := B.returns
  have hts := atoms_spec (ws := wsX3_makeAllYoung) B.pre
  have hown : s.vm.findClass RX3 = some m.cls := findClass_of_methodNamed B.named
  have hlocks := B.notSynchronized
  have hK1 : va_K (dC, dI) vwCl (tC cA) s := hK.1
  have hD : ∀ c, va_D (fA 17 ad s.heap.size) (wC ad cA c) := fun c => dC_ok hap cA c _
  have hS : va_S (fA 17 ad s.heap.size) s.heap s.heap [] := va_S.rf
  have i3 : ∀ w ∈ u_ws RX3 TX3 9, w ∈ wsX3_makeAllYoung := by decide +kernel
  have f30 := hts (.fieldLink RX3 30 "StickyHeap$Space" "age" "[I") (by decide +kernel)
  have L2 : ∀ (n : Nat) (c : HS) (v1 : Int32) (H : Heap) (locs : List Loc) (ls : Array Slot), pX3_makeAllYoung_2 n c v1 = some c9 → va_P (dC, dI) vwCl (wC ad cA c) H → va_S (fA 17 ad s.heap.size) s.heap H locs → lv_has ls 2 [(0, .ref (ad 1)), (1, .int v1)] → W p l e (headSpec wsX3_makeAllYoung ({ frames := 0, cells := 0, slots := 0, locals := 0 })).room s m ([.ref (ad 1)]).toArray below meth cd H locs 0 0 (MQ below (gQv (dC, dI) (wC ad cA) (fA 17 ad s.heap.size) c9) ([.ref (ad 1)]).toArray s 0 0 (fA 17 ad s.heap.size)) (F0 m 2 ls []) := by
    intro n
    induction n with
    | zero =>
      intro c v1 H locs ls hM
      exact absurd (Eq.symm (hM : none = some c9)) sm_ne
    | succ n2 ih2 =>
      intro c v1 H locs ls hM hP hS hl
      unfold pX3_makeAllYoung_2 at hM
      refine lv_iload_n hx hb dX3_makeAllYoung_2 rfl (lv_at hl 1 rfl) ?_
      refine lv_sipush (v := 768) hx hb dX3_makeAllYoung_3 (by decide) ?_
      refine lv_icmp_ge (tgt := 32) hx hb dX3_makeAllYoung_6 (by decide) (fun e6 => ?_) (fun e6 => ?_)
      · have hM := it_p e6 hM
        exact W.vret hx hb hr (fun t ht hW => ⟨⟨_, rfl, pr1 hM, hPt ht hP⟩, hS.F ht⟩) hS.2.2 dX3_makeAllYoung_32
      · have hM := it_n e6 hM
        refine lv_aload_n hx hb dX3_makeAllYoung_9 rfl (lv_at hl 0 rfl) ?_
        refine gget (v := .ref (ad 11)) hx hb hts i3 hown hK1 hP 1 rfl rfl 8 (by decide) f30 rfl rfl dX3_makeAllYoung_10 ?_
        refine lv_iload_n hx hb dX3_makeAllYoung_13 rfl (lv_at hl 1 rfl) ?_
        obtain ⟨h2, x1, hx1, hM⟩ := ldA_some sm_ne hM
        refine gald hx hb hK1 hP 11 6 rfl rfl h2 hx1 dX3_makeAllYoung_14 ?_
        refine lv_iconst (v := 3) hx hb dX3_makeAllYoung_15 (by decide) ?_
        refine lv_icmp_ne (tgt := 26) hx hb dX3_makeAllYoung_16 (by decide) (fun e5 => ?_) (fun e5 => ?_)
        · have hM := it_n e5 hM
          refine lv_iinc (v := v1 + 1) (lv' := [(1, .int (v1 + 1)), (0, .ref (ad 1))]) hx hb dX3_makeAllYoung_26 hl (k := 1) rfl rfl (by decide) rfl (fun ls hl => ?_)
          refine lv_goto (tgt := 2) hx hb dX3_makeAllYoung_29 (by decide) ?_
          exact ih2 _ _ _ _ _ hM hP hS (lv_sub hl [1, 0] rfl)
        · have hM := it_p e5 hM
          refine lv_aload_n hx hb dX3_makeAllYoung_19 rfl (lv_at hl 0 rfl) ?_
          refine gget (v := .ref (ad 11)) hx hb hts i3 hown hK1 hP 1 rfl rfl 8 (by decide) f30 rfl rfl dX3_makeAllYoung_20 ?_
          refine lv_iload_n hx hb dX3_makeAllYoung_23 rfl (lv_at hl 1 rfl) ?_
          refine lv_iconst (v := 1) hx hb dX3_makeAllYoung_24 (by decide) ?_
          obtain ⟨h4, c3, hc3, hM⟩ := stA_some sm_ne hM
          refine gast (w := wC ad cA) (c := c) (c1 := c3) hx hb hK1 hP (hD c) hS 11 6 rfl rfl h4 (by rw [hc3]; rfl) dX3_makeAllYoung_25 (fun H locs hP hS => ?_)
          refine lv_iinc (v := v1 + 1) (lv' := [(1, .int (v1 + 1)), (0, .ref (ad 1))]) hx hb dX3_makeAllYoung_26 hl (k := 1) rfl rfl (by decide) rfl (fun ls hl => ?_)
          refine lv_goto (tgt := 2) hx hb dX3_makeAllYoung_29 (by decide) ?_
          exact ih2 _ _ _ _ _ hM hP hS (lv_sub hl [1, 0] rfl)
  have hl := lv_entry [.ref (ad 1)] (n := 2) (Nat.le_of_ble_eq_true rfl)
  rw [lg_entry_eq]
  generalize (lg_sl [.ref (ad 1)] ++ List.replicate (2 - (lg_sl [.ref (ad 1)]).length) Slot.unset).toArray = ls at hl ⊢
  have hl : lv_has ls 2 [(0, .ref (ad 1))] := hl
  have hP : va_P (dC, dI) vwCl (wC ad cA c) s.heap := hP
  unfold pX3_makeAllYoung at hM
  refine lv_iconst (v := 0) hx hb dX3_makeAllYoung_0 (by decide) ?_
  refine lv_istore_n (lv' := [(1, .int 0), (0, .ref (ad 1))]) hx hb dX3_makeAllYoung_1 rfl hl (by decide) rfl (fun ls hl => ?_)
  exact L2 _ _ _ _ _ _ hM hP hS (lv_sub hl [1, 0] rfl)
set_option maxHeartbeats 4000000 in
set_option maxRecDepth 100000 in
theorem kX0_collectAll (l : Launch) (dC : Nat → ClassId) (dI : Nat → Nat → Nat) (ad : Nat → Nat) (cA : Nat → ClassId) (hap : apart 17 ad) (sz : Nat) (c : HS) (r0 : Int32) (c9 : HS) (hM : pX0_collectAll c = some (r0, c9)) : Met l yX0_collectAll wsX0_collectAll ({ frames := 4, cells := 0, slots := 0, locals := 86 }) (gP (dC, dI) (wC ad cA) (kC (dC, dI) cA) c sz [.ref (ad 4)]) (gQi (dC, dI) (wC ad cA) (fA 17 ad sz) r0 c9) 0 0 (fA 17 ad sz) := by
  refine Met.ofW (cc := cX0_collectAll) (maxL := 1) (ret := (some .int)) (by decide) rfl ?_
  intro p e s m args below meth cd s₁ B hml hv
  obtain ⟨rfl, rfl, hP, hK⟩ := hv
  have hx := B.exec
  have hb := B.bytes
  have hr := B.returns
  have hts := atoms_spec (ws := wsX0_collectAll) B.pre
  have hown : s.vm.findClass RX0 = some m.cls := findClass_of_methodNamed B.named
  have hlocks := B.notSynchronized
  have hK1 : va_K (dC, dI) vwCl (tC cA) s := hK.1
  have hD : ∀ c, va_D (fA 17 ad s.heap.size) (wC ad cA c) := fun c => dC_ok hap cA c _
  have hS : va_S (fA 17 ad s.heap.size) s.heap s.heap [] := va_S.rf
  have i0 : ∀ w ∈ u_ws RX0 TX0 9, w ∈ wsX0_collectAll := by decide +kernel
  have f15 := hts (.fieldLink RX0 15 "StickyHeap$Collector" "space" "LStickyHeap$Space;") (by decide +kernel)
  have f31 := hts (.fieldLink RX0 31 "StickyHeap$Collector" "foundCount" "I") (by decide +kernel)
  have f47 := hts (.fieldLink RX0 47 "StickyHeap$Collector" "fulls" "I") (by decide +kernel)
  have hl := lv_entry [.ref (ad 4)] (n := 1) (Nat.le_of_ble_eq_true rfl)
  rw [lg_entry_eq]
  generalize (lg_sl [.ref (ad 4)] ++ List.replicate (1 - (lg_sl [.ref (ad 4)]).length) Slot.unset).toArray = ls at hl ⊢
  have hl : lv_has ls 1 [(0, .ref (ad 4))] := hl
  have hP : va_P (dC, dI) vwCl (wC ad cA c) s.heap := hP
  unfold pX0_collectAll at hM
  refine lv_aload_n hx hb dX0_collectAll_0 rfl (lv_at hl 0 rfl) ?_
  refine lv_dup hx hb dX0_collectAll_1 rfl ?_
  refine gget (v := .int (c.1 0 9)) hx hb hts i0 hown hK1 hP 4 rfl rfl 7 (by decide) f47 rfl rfl dX0_collectAll_2 ?_
  refine lv_iconst (v := 1) hx hb dX0_collectAll_5 (by decide) ?_
  refine lv_iadd hx hb dX0_collectAll_6 ?_
  obtain ⟨c1, hc1, hM⟩ := pfA_some hM
  refine gput (w := wC ad cA) (c := c) (c1 := c1) (v := .int ((c.1 0 9) + 1)) hx hb hts i0 tyX0 tyX0_ok nmX0 hown hK1 hP (hD c) hS 4 rfl rfl 7 (by decide) f47 rfl rfl rfl rfl (Nat.le_of_ble_eq_true rfl) (by rw [hc1]; rfl) dX0_collectAll_7 (fun H locs hP hS => ?_)
  refine lv_aload_n hx hb dX0_collectAll_10 rfl (lv_at hl 0 rfl) ?_
  refine lv_iconst (v := 0) hx hb dX0_collectAll_11 (by decide) ?_
  obtain ⟨c2, hc2, hM⟩ := pfA_some hM
  refine gput (w := wC ad cA) (c := c1) (c1 := c2) (v := .int 0) hx hb hts i0 tyX0 tyX0_ok nmX0 hown hK1 hP (hD c1) hS 4 rfl rfl 4 (by decide) f31 rfl rfl rfl rfl (Nat.le_of_ble_eq_true rfl) (by rw [hc2]; rfl) dX0_collectAll_12 (fun H locs hP hS => ?_)
  refine lv_aload_n hx hb dX0_collectAll_15 rfl (lv_at hl 0 rfl) ?_
  refine gget (v := .ref (ad 1)) hx hb hts i0 hown hK1 hP 4 rfl rfl 0 (by decide) f15 rfl rfl dX0_collectAll_16 ?_
  obtain ⟨c4, h3, hM⟩ := bd1_some sm_ne hM
  refine gCv (gV (As := []) (rest := []) ⟨hx, hb, hml, hown, hts⟩ (kX3_makeAllYoung l dC dI ad cA hap _ c2 _ h3) (cwV 0 hts gX0_collectAll_X3_makeAllYoung rfl rfl rfl (by decide +kernel) ⟨Nat.le_of_ble_eq_true rfl, Nat.le_of_ble_eq_true rfl⟩) (kC_st _ _) hK hP (va_recv hK1 hP (ci := 3) (q0 := 1) rfl rfl) rfl hl.1 rfl (Nat.le_of_ble_eq_true rfl) dX0_collectAll_19 ⟨Nat.zero_le _, Nat.zero_le _⟩) hS (fun H locs hP hS => ?_)
  refine lv_aload_n hx hb dX0_collectAll_22 rfl (lv_at hl 0 rfl) ?_
  obtain ⟨c6, h5, hM⟩ := bd1_some sm_ne hM
  refine gCv (gV (As := []) (rest := []) ⟨hx, hb, hml, hown, hts⟩ (kX0_findHeld l dC dI ad cA hap _ c4 _ h5) (cwV 0 hts gX0_collectAll_X0_findHeld rfl rfl rfl (by decide +kernel) ⟨Nat.le_of_ble_eq_true rfl, Nat.le_of_ble_eq_true rfl⟩) (kC_st _ _) hK hP (va_recv hK1 hP (ci := 0) (q0 := 4) rfl rfl) rfl hl.1 rfl (Nat.le_of_ble_eq_true rfl) dX0_collectAll_23 ⟨Nat.zero_le _, Nat.zero_le _⟩) hS (fun H locs hP hS => ?_)
  refine lv_aload_n hx hb dX0_collectAll_26 rfl (lv_at hl 0 rfl) ?_
  obtain ⟨c8, h7, hM⟩ := bd1_some sm_ne hM
  refine gCv (gV (As := []) (rest := []) ⟨hx, hb, hml, hown, hts⟩ (kX0_findReferred l dC dI ad cA hap _ c6 _ h7) (cwV 0 hts gX0_collectAll_X0_findReferred rfl rfl rfl (by decide +kernel) ⟨Nat.le_of_ble_eq_true rfl, Nat.le_of_ble_eq_true rfl⟩) (kC_st _ _) hK hP (va_recv hK1 hP (ci := 0) (q0 := 4) rfl rfl) rfl hl.1 rfl (Nat.le_of_ble_eq_true rfl) dX0_collectAll_27 ⟨Nat.zero_le _, Nat.zero_le _⟩) hS (fun H locs hP hS => ?_)
  refine lv_aload_n hx hb dX0_collectAll_30 rfl (lv_at hl 0 rfl) ?_
  obtain ⟨r11, c10, h9, hM⟩ := bd2_some sm_ne hM
  refine gCi (gV (As := []) (rest := []) ⟨hx, hb, hml, hown, hts⟩ (kX0_end l dC dI ad cA hap _ c8 _ _ h9) (cwV 0 hts gX0_collectAll_X0_end rfl rfl rfl (by decide +kernel) ⟨Nat.le_of_ble_eq_true rfl, Nat.le_of_ble_eq_true rfl⟩) (kC_st _ _) hK hP (va_recv hK1 hP (ci := 0) (q0 := 4) rfl rfl) rfl hl.1 rfl (Nat.le_of_ble_eq_true rfl) dX0_collectAll_31 ⟨Nat.zero_le _, Nat.zero_le _⟩) hS (fun H locs hP hS => ?_)
  exact W.iret hx hb hr (fun t ht hW => ⟨⟨_, _, rfl, pr2 hM, hPt ht hP⟩, hS.F ht⟩) hS.2.2 dX0_collectAll_34
set_option maxHeartbeats 4000000 in
set_option maxRecDepth 100000 in
theorem kX4_placeFor (l : Launch) (dC : Nat → ClassId) (dI : Nat → Nat → Nat) (ad : Nat → Nat) (cA : Nat → ClassId) (hap : apart 17 ad) (sz : Nat) (c : HS) (a1 : Int32) (r0 : Int32) (c9 : HS) (hM : pX4_placeFor c a1 = some (r0, c9)) : Met l yX4_placeFor wsX4_placeFor ({ frames := 5, cells := 0, slots := 0, locals := 106 }) (gP (dC, dI) (wC ad cA) (kC (dC, dI) cA) c sz [.ref (ad 0), .int a1]) (gQi (dC, dI) (wC ad cA) (fA 17 ad sz) r0 c9) 0 0 (fA 17 ad sz) := by
  refine Met.ofW (cc := cX4_placeFor) (maxL := 3) (ret := (some .int)) (by decide) rfl ?_
  intro p e s m args below meth cd s₁ B hml hv
  obtain ⟨rfl, rfl, hP, hK⟩ := hv
  have hx := B.exec
  have hb := B.bytes
  have hr := B.returns
  have hts := atoms_spec (ws := wsX4_placeFor) B.pre
  have hown : s.vm.findClass RX4 = some m.cls := findClass_of_methodNamed B.named
  have hlocks := B.notSynchronized
  have hK1 : va_K (dC, dI) vwCl (tC cA) s := hK.1
  have hD : ∀ c, va_D (fA 17 ad s.heap.size) (wC ad cA c) := fun c => dC_ok hap cA c _
  have hS : va_S (fA 17 ad s.heap.size) s.heap s.heap [] := va_S.rf
  have i4 : ∀ w ∈ u_ws RX4 TX4 7, w ∈ wsX4_placeFor := by decide +kernel
  have f12 := hts (.fieldLink RX4 12 "StickyHeap" "space" "LStickyHeap$Space;") (by decide +kernel)
  have f35 := hts (.fieldLink RX4 35 "StickyHeap" "collector" "LStickyHeap$Collector;") (by decide +kernel)
  have f39 := hts (.fieldLink RX4 39 "StickyHeap" "collectsItself" "Z") (by decide +kernel)
  have L40 : ∀ (c : HS) (v1 : Int32) (v2 : Int32) (H : Heap) (locs : List Loc) (ls : Array Slot), pX4_placeFor_40 c v1 v2 = some (r0, c9) → va_P (dC, dI) vwCl (wC ad cA c) H → va_S (fA 17 ad s.heap.size) s.heap H locs → lv_has ls 3 [(0, .ref (ad 0)), (1, .int v1), (2, .int v2)] → W p l e (headSpec wsX4_placeFor ({ frames := 5, cells := 0, slots := 0, locals := 106 })).room s m ([.ref (ad 0), .int a1]).toArray below meth cd H locs 0 0 (MQ below (gQi (dC, dI) (wC ad cA) (fA 17 ad s.heap.size) r0 c9) ([.ref (ad 0), .int a1]).toArray s 0 0 (fA 17 ad s.heap.size)) (F0 m 40 ls []) := by
    have L70 : ∀ (c : HS) (v1 : Int32) (v2 : Int32) (H : Heap) (locs : List Loc) (ls : Array Slot), pX4_placeFor_70 c v1 v2 = some (r0, c9) → va_P (dC, dI) vwCl (wC ad cA c) H → va_S (fA 17 ad s.heap.size) s.heap H locs → lv_has ls 3 [(0, .ref (ad 0)), (1, .int v1), (2, .int v2)] → W p l e (headSpec wsX4_placeFor ({ frames := 5, cells := 0, slots := 0, locals := 106 })).room s m ([.ref (ad 0), .int a1]).toArray below meth cd H locs 0 0 (MQ below (gQi (dC, dI) (wC ad cA) (fA 17 ad s.heap.size) r0 c9) ([.ref (ad 0), .int a1]).toArray s 0 0 (fA 17 ad s.heap.size)) (F0 m 70 ls []) := by
      intro c v1 v2 H locs ls hM hP hS hl
      unfold pX4_placeFor_70 at hM
      refine lv_iload_n hx hb dX4_placeFor_70 rfl (lv_at hl 2 rfl) ?_
      refine lv_iconst (v := (-1)) hx hb dX4_placeFor_71 (by decide) ?_
      refine lv_icmp_ne (tgt := 87) hx hb dX4_placeFor_72 (by decide) (fun e3 => ?_) (fun e3 => ?_)
      · have hM := it_n e3 hM
        refine lv_iload_n hx hb dX4_placeFor_87 rfl (lv_at hl 2 rfl) ?_
        exact W.iret hx hb hr (fun t ht hW => ⟨⟨_, _, rfl, pr2 hM, hPt ht hP⟩, hS.F ht⟩) hS.2.2 dX4_placeFor_88
      · have hM := it_p e3 hM
        refine lv_aload_n hx hb dX4_placeFor_75 rfl (lv_at hl 0 rfl) ?_
        refine gget (v := .ref (ad 1)) hx hb hts i4 hown hK1 hP 0 rfl rfl 0 (by decide) f12 rfl rfl dX4_placeFor_76 ?_
        refine lv_iload_n hx hb dX4_placeFor_79 rfl (lv_at hl 1 rfl) ?_
        refine lv_iconst (v := 0) hx hb dX4_placeFor_80 (by decide) ?_
        obtain ⟨r2, h1, hM⟩ := bd1_some sm_ne hM
        refine gCi (gV (As := [.int v1, .int 0]) (rest := []) ⟨hx, hb, hml, hown, hts⟩ (kX3_placeFor l dC dI ad cA hap _ c v1 0 _ h1) (cwV 2 hts gX4_placeFor_X3_placeFor rfl rfl rfl (by decide +kernel) ⟨Nat.le_of_ble_eq_true rfl, Nat.le_of_ble_eq_true rfl⟩) (kC_st _ _) hK hP (va_recv hK1 hP (ci := 3) (q0 := 1) rfl rfl) rfl hl.1 rfl (Nat.le_of_ble_eq_true rfl) dX4_placeFor_81 ⟨Nat.zero_le _, Nat.zero_le _⟩) hS (fun H locs hP hS => ?_)
        refine lv_goto (tgt := 88) hx hb dX4_placeFor_84 (by decide) ?_
        exact W.iret hx hb hr (fun t ht hW => ⟨⟨_, _, rfl, pr2 hM, hPt ht hP⟩, hS.F ht⟩) hS.2.2 dX4_placeFor_88
    intro c v1 v2 H locs ls hM hP hS hl
    unfold pX4_placeFor_40 at hM
    refine lv_iload_n hx hb dX4_placeFor_40 rfl (lv_at hl 2 rfl) ?_
    refine lv_iconst (v := (-1)) hx hb dX4_placeFor_41 (by decide) ?_
    refine lv_icmp_ne (tgt := 70) hx hb dX4_placeFor_42 (by decide) (fun e10 => ?_) (fun e10 => ?_)
    · have hM := it_n e10 hM
      exact L70 _ _ _ _ _ _ hM hP hS (lv_sub hl [0, 1, 2] rfl)
    · have hM := it_p e10 hM
      refine lv_aload_n hx hb dX4_placeFor_45 rfl (lv_at hl 0 rfl) ?_
      refine gget (v := .int (c.1 0 11)) hx hb hts i4 hown hK1 hP 0 rfl rfl 4 (by decide) f39 rfl rfl dX4_placeFor_46 ?_
      refine lv_if_eq (tgt := 70) hx hb dX4_placeFor_49 (by decide) (fun e9 => ?_) (fun e9 => ?_)
      · have hM := it_p e9 hM
        exact L70 _ _ _ _ _ _ hM hP hS (lv_sub hl [0, 1, 2] rfl)
      · have hM := it_n e9 hM
        refine lv_aload_n hx hb dX4_placeFor_52 rfl (lv_at hl 0 rfl) ?_
        refine gget (v := .ref (ad 4)) hx hb hts i4 hown hK1 hP 0 rfl rfl 3 (by decide) f35 rfl rfl dX4_placeFor_53 ?_
        obtain ⟨r6, c5, h4, hM⟩ := bd2_some sm_ne hM
        refine gCi (gV (As := []) (rest := []) ⟨hx, hb, hml, hown, hts⟩ (kX0_collectAll l dC dI ad cA hap _ c _ _ h4) (cwV 0 hts gX4_placeFor_X0_collectAll rfl rfl rfl (by decide +kernel) ⟨Nat.le_of_ble_eq_true rfl, Nat.le_of_ble_eq_true rfl⟩) (kC_st _ _) hK hP (va_recv hK1 hP (ci := 0) (q0 := 4) rfl rfl) rfl hl.1 rfl (Nat.le_of_ble_eq_true rfl) dX4_placeFor_56 ⟨Nat.zero_le _, Nat.zero_le _⟩) hS (fun H locs hP hS => ?_)
        refine lv_pop hx hb dX4_placeFor_59 rfl ?_
        refine lv_aload_n hx hb dX4_placeFor_60 rfl (lv_at hl 0 rfl) ?_
        refine gget (v := .ref (ad 1)) hx hb hts i4 hown hK1 hP 0 rfl rfl 0 (by decide) f12 rfl rfl dX4_placeFor_61 ?_
        refine lv_iload_n hx hb dX4_placeFor_64 rfl (lv_at hl 1 rfl) ?_
        refine lv_iconst (v := 1) hx hb dX4_placeFor_65 (by decide) ?_
        obtain ⟨r8, h7, hM⟩ := bd1_some sm_ne hM
        refine gCi (gV (As := [.int v1, .int 1]) (rest := []) ⟨hx, hb, hml, hown, hts⟩ (kX3_placeFor l dC dI ad cA hap _ c5 v1 1 _ h7) (cwV 2 hts gX4_placeFor_X3_placeFor rfl rfl rfl (by decide +kernel) ⟨Nat.le_of_ble_eq_true rfl, Nat.le_of_ble_eq_true rfl⟩) (kC_st _ _) hK hP (va_recv hK1 hP (ci := 3) (q0 := 1) rfl rfl) rfl hl.1 rfl (Nat.le_of_ble_eq_true rfl) dX4_placeFor_66 ⟨Nat.zero_le _, Nat.zero_le _⟩) hS (fun H locs hP hS => ?_)
        refine lv_istore_n (lv' := [(2, .int r8), (0, .ref (ad 0)), (1, .int v1)]) hx hb dX4_placeFor_69 rfl hl (by decide) rfl (fun ls hl => ?_)
        exact L70 _ _ _ _ _ _ hM hP hS (lv_sub hl [1, 2, 0] rfl)
  have hl := lv_entry [.ref (ad 0), .int a1] (n := 3) (Nat.le_of_ble_eq_true rfl)
  rw [lg_entry_eq]
  generalize (lg_sl [.ref (ad 0), .int a1] ++ List.replicate (3 - (lg_sl [.ref (ad 0), .int a1]).length) Slot.unset).toArray = ls at hl ⊢
  have hl : lv_has ls 3 [(0, .ref (ad 0)), (1, .int a1)] := hl
  have hP : va_P (dC, dI) vwCl (wC ad cA c) s.heap := hP
  unfold pX4_placeFor at hM
  refine lv_aload_n hx hb dX4_placeFor_0 rfl (lv_at hl 0 rfl) ?_
  refine gget (v := .ref (ad 1)) hx hb hts i4 hown hK1 hP 0 rfl rfl 0 (by decide) f12 rfl rfl dX4_placeFor_1 ?_
  refine lv_iload_n hx hb dX4_placeFor_4 rfl (lv_at hl 1 rfl) ?_
  refine lv_iconst (v := 1) hx hb dX4_placeFor_5 (by decide) ?_
  obtain ⟨r12, h11, hM⟩ := bd1_some sm_ne hM
  refine gCi (gV (As := [.int a1, .int 1]) (rest := []) ⟨hx, hb, hml, hown, hts⟩ (kX3_placeFor l dC dI ad cA hap _ c a1 1 _ h11) (cwV 2 hts gX4_placeFor_X3_placeFor rfl rfl rfl (by decide +kernel) ⟨Nat.le_of_ble_eq_true rfl, Nat.le_of_ble_eq_true rfl⟩) (kC_st _ _) hK hP (va_recv hK1 hP (ci := 3) (q0 := 1) rfl rfl) rfl hl.1 rfl (Nat.le_of_ble_eq_true rfl) dX4_placeFor_6 ⟨Nat.zero_le _, Nat.zero_le _⟩) hS (fun H locs hP hS => ?_)
  refine lv_istore_n (lv' := [(2, .int r12), (0, .ref (ad 0)), (1, .int a1)]) hx hb dX4_placeFor_9 rfl hl (by decide) rfl (fun ls hl => ?_)
  refine lv_iload_n hx hb dX4_placeFor_10 rfl (lv_at hl 0 rfl) ?_
  refine lv_iconst (v := (-1)) hx hb dX4_placeFor_11 (by decide) ?_
  refine lv_icmp_ne (tgt := 40) hx hb dX4_placeFor_12 (by decide) (fun e19 => ?_) (fun e19 => ?_)
  · have hM := it_n e19 hM
    exact L40 _ _ _ _ _ _ hM hP hS (lv_sub hl [1, 2, 0] rfl)
  · have hM := it_p e19 hM
    refine lv_aload_n hx hb dX4_placeFor_15 rfl (lv_at hl 1 rfl) ?_
    refine gget (v := .int (c.1 0 11)) hx hb hts i4 hown hK1 hP 0 rfl rfl 4 (by decide) f39 rfl rfl dX4_placeFor_16 ?_
    refine lv_if_eq (tgt := 40) hx hb dX4_placeFor_19 (by decide) (fun e18 => ?_) (fun e18 => ?_)
    · have hM := it_p e18 hM
      exact L40 _ _ _ _ _ _ hM hP hS (lv_sub hl [1, 2, 0] rfl)
    · have hM := it_n e18 hM
      refine lv_aload_n hx hb dX4_placeFor_22 rfl (lv_at hl 1 rfl) ?_
      refine gget (v := .ref (ad 4)) hx hb hts i4 hown hK1 hP 0 rfl rfl 3 (by decide) f35 rfl rfl dX4_placeFor_23 ?_
      obtain ⟨r15, c14, h13, hM⟩ := bd2_some sm_ne hM
      refine gCi (gV (As := []) (rest := []) ⟨hx, hb, hml, hown, hts⟩ (kX0_collectYoung l dC dI ad cA hap _ c _ _ h13) (cwV 0 hts gX4_placeFor_X0_collectYoung rfl rfl rfl (by decide +kernel) ⟨Nat.le_of_ble_eq_true rfl, Nat.le_of_ble_eq_true rfl⟩) (kC_st _ _) hK hP (va_recv hK1 hP (ci := 0) (q0 := 4) rfl rfl) rfl hl.1 rfl (Nat.le_of_ble_eq_true rfl) dX4_placeFor_26 ⟨Nat.zero_le _, Nat.zero_le _⟩) hS (fun H locs hP hS => ?_)
      refine lv_pop hx hb dX4_placeFor_29 rfl ?_
      refine lv_aload_n hx hb dX4_placeFor_30 rfl (lv_at hl 1 rfl) ?_
      refine gget (v := .ref (ad 1)) hx hb hts i4 hown hK1 hP 0 rfl rfl 0 (by decide) f12 rfl rfl dX4_placeFor_31 ?_
      refine lv_iload_n hx hb dX4_placeFor_34 rfl (lv_at hl 2 rfl) ?_
      refine lv_iconst (v := 1) hx hb dX4_placeFor_35 (by decide) ?_
      obtain ⟨r17, h16, hM⟩ := bd1_some sm_ne hM
      refine gCi (gV (As := [.int a1, .int 1]) (rest := []) ⟨hx, hb, hml, hown, hts⟩ (kX3_placeFor l dC dI ad cA hap _ c14 a1 1 _ h16) (cwV 2 hts gX4_placeFor_X3_placeFor rfl rfl rfl (by decide +kernel) ⟨Nat.le_of_ble_eq_true rfl, Nat.le_of_ble_eq_true rfl⟩) (kC_st _ _) hK hP (va_recv hK1 hP (ci := 3) (q0 := 1) rfl rfl) rfl hl.1 rfl (Nat.le_of_ble_eq_true rfl) dX4_placeFor_36 ⟨Nat.zero_le _, Nat.zero_le _⟩) hS (fun H locs hP hS => ?_)
      refine lv_istore_n (lv' := [(2, .int r17), (0, .ref (ad 0)), (1, .int a1)]) hx hb dX4_placeFor_39 rfl hl (by decide) rfl (fun ls hl => ?_)
      exact L40 _ _ _ _ _ _ hM hP hS (lv_sub hl [1, 2, 0] rfl)
set_option maxHeartbeats 4000000 in
set_option maxRecDepth 100000 in
theorem kX3_take (l : Launch) (dC : Nat → ClassId) (dI : Nat → Nat → Nat) (ad : Nat → Nat) (cA : Nat → ClassId) (hap : apart 17 ad) (sz : Nat) (c : HS) (a1 : Int32) (a2 : Int32) (c9 : HS) (hM : pX3_take c a1 a2 = some c9) : Met l yX3_take wsX3_take ({ frames := 2, cells := 0, slots := 0, locals := 41 }) (gP (dC, dI) (wC ad cA) (kC (dC, dI) cA) c sz [.ref (ad 1), .int a1, .int a2]) (gQv (dC, dI) (wC ad cA) (fA 17 ad sz) c9) 0 0 (fA 17 ad sz) := by
  refine Met.ofW (cc := cX3_take) (maxL := 6) (ret := none) (by decide) rfl ?_
  intro p e s m args below meth cd s₁ B hml hv
  obtain ⟨rfl, rfl, hP, hK⟩ := hv
  have hx := B.exec
  have hb := B.bytes
  have hr := B.returns
  have hts := atoms_spec (ws := wsX3_take) B.pre
  have hown : s.vm.findClass RX3 = some m.cls := findClass_of_methodNamed B.named
  have hlocks := B.notSynchronized
  have hK1 : va_K (dC, dI) vwCl (tC cA) s := hK.1
  have hD : ∀ c, va_D (fA 17 ad s.heap.size) (wC ad cA c) := fun c => dC_ok hap cA c _
  have hS : va_S (fA 17 ad s.heap.size) s.heap s.heap [] := va_S.rf
  have L35 : ∀ (n : Nat) (c : HS) (v1 : Int32) (v4 : Int32) (v5 : Int32) (H : Heap) (locs : List Loc) (ls : Array Slot), pX3_take_35 n c v1 v4 v5 = some c9 → va_P (dC, dI) vwCl (wC ad cA c) H → va_S (fA 17 ad s.heap.size) s.heap H locs → lv_has ls 6 [(0, .ref (ad 1)), (1, .int v1), (4, .int v4), (5, .int v5)] → W p l e (headSpec wsX3_take ({ frames := 2, cells := 0, slots := 0, locals := 41 })).room s m ([.ref (ad 1), .int a1, .int a2]).toArray below meth cd H locs 0 0 (MQ below (gQv (dC, dI) (wC ad cA) (fA 17 ad s.heap.size) c9) ([.ref (ad 1), .int a1, .int a2]).toArray s 0 0 (fA 17 ad s.heap.size)) (F0 m 35 ls []) := by
    intro n
    induction n with
    | zero =>
      intro c v1 v4 v5 H locs ls hM
      exact absurd (Eq.symm (hM : none = some c9)) sm_ne
    | succ n35 ih35 =>
      intro c v1 v4 v5 H locs ls hM hP hS hl
      unfold pX3_take_35 at hM
      refine lv_iload hx hb dX3_take_35 (lv_at hl 3 rfl) ?_
      refine lv_iload hx hb dX3_take_37 (lv_at hl 2 rfl) ?_
      refine lv_icmp_ge (tgt := 58) hx hb dX3_take_39 (by decide) (fun e3 => ?_) (fun e3 => ?_)
      · have hM := it_p e3 hM
        exact W.vret hx hb hr (fun t ht hW => ⟨⟨_, rfl, pr1 hM, hPt ht hP⟩, hS.F ht⟩) hS.2.2 dX3_take_58
      · have hM := it_n e3 hM
        refine lv_aload_n hx hb dX3_take_42 rfl (lv_at hl 0 rfl) ?_
        refine lv_iload_n hx hb dX3_take_43 rfl (lv_at hl 1 rfl) ?_
        refine lv_iload hx hb dX3_take_44 (lv_at hl 3 rfl) ?_
        refine lv_iadd hx hb dX3_take_46 ?_
        refine lv_iconst (v := 3) hx hb dX3_take_47 (by decide) ?_
        refine lv_iconst (v := 0) hx hb dX3_take_48 (by decide) ?_
        obtain ⟨c2, h1, hM⟩ := bd1_some sm_ne hM
        refine gCv (gV (As := [.int (v1 + v5), .int 3, .int 0]) (rest := []) ⟨hx, hb, hml, hown, hts⟩ (kX3_turn l dC dI ad cA hap _ c (v1 + v5) 3 0 _ h1) (cwV 3 hts gX3_take_X3_turn rfl rfl rfl (by decide +kernel) ⟨Nat.le_of_ble_eq_true rfl, Nat.le_of_ble_eq_true rfl⟩) (kC_st _ _) hK hP (va_recv hK1 hP (ci := 3) (q0 := 1) rfl rfl) rfl hl.1 rfl (Nat.le_of_ble_eq_true rfl) dX3_take_49 ⟨Nat.zero_le _, Nat.zero_le _⟩) hS (fun H locs hP hS => ?_)
        refine lv_iinc (v := v5 + 1) (lv' := [(5, .int (v5 + 1)), (0, .ref (ad 1)), (1, .int v1), (4, .int v4)]) hx hb dX3_take_52 hl (k := 3) rfl rfl (by decide) rfl (fun ls hl => ?_)
        refine lv_goto (tgt := 35) hx hb dX3_take_55 (by decide) ?_
        exact ih35 _ _ _ _ _ _ _ hM hP hS (lv_sub hl [1, 2, 3, 0] rfl)
  have hl := lv_entry [.ref (ad 1), .int a1, .int a2] (n := 6) (Nat.le_of_ble_eq_true rfl)
  rw [lg_entry_eq]
  generalize (lg_sl [.ref (ad 1), .int a1, .int a2] ++ List.replicate (6 - (lg_sl [.ref (ad 1), .int a1, .int a2]).length) Slot.unset).toArray = ls at hl ⊢
  have hl : lv_has ls 6 [(0, .ref (ad 1)), (1, .int a1), (2, .int a2)] := hl
  have hP : va_P (dC, dI) vwCl (wC ad cA c) s.heap := hP
  unfold pX3_take at hM
  refine lv_iload_n hx hb dX3_take_0 rfl (lv_at hl 2 rfl) ?_
  obtain ⟨r5, h4, hM⟩ := bd1_some sm_ne hM
  refine gCi (gSN (As := [.int a2]) (rest := []) ⟨hx, hb, hml, hown, hts⟩ (kX4_classFor l dC dI ad cA hap _ c a2 _ h4) (va_cnB 1 hts gX3_take_X4_classFor_n64 rfl rfl rfl hK.2.2.1 (hts (.initialized RX4) (by decide +kernel)) (by decide +kernel) ⟨Nat.le_of_ble_eq_true rfl, Nat.le_of_ble_eq_true rfl⟩) (hts (.static yX4_classFor) (by decide +kernel)) (kC_st _ _) hK hP rfl hl.1 rfl (Nat.le_of_ble_eq_true rfl) dX3_take_1 ⟨Nat.zero_le _, Nat.zero_le _⟩) hS (fun H locs hP hS => ?_)
  refine lv_istore_n (lv' := [(3, .int r5), (0, .ref (ad 1)), (1, .int a1), (2, .int a2)]) hx hb dX3_take_4 rfl hl (by decide) rfl (fun ls hl => ?_)
  refine lv_iload_n hx hb dX3_take_5 rfl (lv_at hl 0 rfl) ?_
  refine lv_iconst (v := 5) hx hb dX3_take_6 (by decide) ?_
  refine lv_icmp_eq (tgt := 18) hx hb dX3_take_7 (by decide) (fun e10 => ?_) (fun e10 => ?_)
  · have hM := it_p e10 hM
    refine lv_iload_n hx hb dX3_take_18 rfl (lv_at hl 3 rfl) ?_
    refine gCi (gSN (As := [.int a2]) (rest := []) ⟨hx, hb, hml, hown, hts⟩ (kX4_blocksFor l dC dI ad cA hap _ c a2 _ rfl) (va_cnB 1 hts gX3_take_X4_blocksFor_n67 rfl rfl rfl hK.2.2.2.1 (hts (.initialized RX4) (by decide +kernel)) (by decide +kernel) ⟨Nat.le_of_ble_eq_true rfl, Nat.le_of_ble_eq_true rfl⟩) (hts (.static yX4_blocksFor) (by decide +kernel)) (kC_st _ _) hK hP rfl hl.1 rfl (Nat.le_of_ble_eq_true rfl) dX3_take_19 ⟨Nat.zero_le _, Nat.zero_le _⟩) hS (fun H locs hP hS => ?_)
    refine lv_istore (lv' := [(4, .int (pX4_blocksFor a2)), (3, .int r5), (0, .ref (ad 1)), (1, .int a1), (2, .int a2)]) hx hb dX3_take_22 hl (by decide) rfl (fun ls hl => ?_)
    refine lv_aload_n hx hb dX3_take_24 rfl (lv_at hl 2 rfl) ?_
    refine lv_iload_n hx hb dX3_take_25 rfl (lv_at hl 3 rfl) ?_
    refine lv_iconst (v := 2) hx hb dX3_take_26 (by decide) ?_
    refine lv_iload hx hb dX3_take_27 (lv_at hl 0 rfl) ?_
    obtain ⟨c7, h6, hM⟩ := bd1_some sm_ne hM
    refine gCv (gV (As := [.int a1, .int 2, .int (pX4_blocksFor a2)]) (rest := []) ⟨hx, hb, hml, hown, hts⟩ (kX3_turn l dC dI ad cA hap _ c a1 2 (pX4_blocksFor a2) _ h6) (cwV 3 hts gX3_take_X3_turn rfl rfl rfl (by decide +kernel) ⟨Nat.le_of_ble_eq_true rfl, Nat.le_of_ble_eq_true rfl⟩) (kC_st _ _) hK hP (va_recv hK1 hP (ci := 3) (q0 := 1) rfl rfl) rfl hl.1 rfl (Nat.le_of_ble_eq_true rfl) dX3_take_29 ⟨Nat.zero_le _, Nat.zero_le _⟩) hS (fun H locs hP hS => ?_)
    refine lv_iconst (v := 1) hx hb dX3_take_32 (by decide) ?_
    refine lv_istore (lv' := [(5, .int 1), (4, .int (pX4_blocksFor a2)), (3, .int r5), (0, .ref (ad 1)), (1, .int a1), (2, .int a2)]) hx hb dX3_take_33 hl (by decide) rfl (fun ls hl => ?_)
    exact L35 _ _ _ _ _ _ _ _ hM hP hS (lv_sub hl [3, 4, 1, 0] rfl)
  · have hM := it_n e10 hM
    refine lv_aload_n hx hb dX3_take_10 rfl (lv_at hl 1 rfl) ?_
    refine lv_iload_n hx hb dX3_take_11 rfl (lv_at hl 2 rfl) ?_
    refine lv_iconst (v := 1) hx hb dX3_take_12 (by decide) ?_
    refine lv_iload_n hx hb dX3_take_13 rfl (lv_at hl 0 rfl) ?_
    obtain ⟨c9, h8, hM⟩ := bd1_some sm_ne hM
    refine gCv (gV (As := [.int a1, .int 1, .int r5]) (rest := []) ⟨hx, hb, hml, hown, hts⟩ (kX3_turn l dC dI ad cA hap _ c a1 1 r5 _ h8) (cwV 3 hts gX3_take_X3_turn rfl rfl rfl (by decide +kernel) ⟨Nat.le_of_ble_eq_true rfl, Nat.le_of_ble_eq_true rfl⟩) (kC_st _ _) hK hP (va_recv hK1 hP (ci := 3) (q0 := 1) rfl rfl) rfl hl.1 rfl (Nat.le_of_ble_eq_true rfl) dX3_take_14 ⟨Nat.zero_le _, Nat.zero_le _⟩) hS (fun H locs hP hS => ?_)
    exact W.vret hx hb hr (fun t ht hW => ⟨⟨_, rfl, pr1 hM, hPt ht hP⟩, hS.F ht⟩) hS.2.2 dX3_take_17
set_option maxHeartbeats 4000000 in
set_option maxRecDepth 100000 in
theorem kX3_lay (l : Launch) (dC : Nat → ClassId) (dI : Nat → Nat → Nat) (ad : Nat → Nat) (cA : Nat → ClassId) (hap : apart 17 ad) (sz : Nat) (c : HS) (a1 : Int32) (a2 : Int32) (a3 : Int32) (c9 : HS) (hM : pX3_lay c a1 a2 a3 = some c9) : Met l yX3_lay wsX3_lay ({ frames := 3, cells := 0, slots := 0, locals := 66 }) (gP (dC, dI) (wC ad cA) (kC (dC, dI) cA) c sz [.ref (ad 1), .int a1, .int a2, .int a3]) (gQv (dC, dI) (wC ad cA) (fA 17 ad sz) c9) 0 0 (fA 17 ad sz) := by
  refine Met.ofW (cc := cX3_lay) (maxL := 6) (ret := none) (by decide) rfl ?_
  intro p e s m args below meth cd s₁ B hml hv
  obtain ⟨rfl, rfl, hP, hK⟩ := hv
  have hx := B.exec
  have hb := B.bytes
  have hr := B.returns
  have hts := atoms_spec (ws := wsX3_lay) B.pre
  have hown : s.vm.findClass RX3 = some m.cls := findClass_of_methodNamed B.named
  have hlocks := B.notSynchronized
  have hK1 : va_K (dC, dI) vwCl (tC cA) s := hK.1
  have hD : ∀ c, va_D (fA 17 ad s.heap.size) (wC ad cA c) := fun c => dC_ok hap cA c _
  have hS : va_S (fA 17 ad s.heap.size) s.heap s.heap [] := va_S.rf
  have i3 : ∀ w ∈ u_ws RX3 TX3 9, w ∈ wsX3_lay := by decide +kernel
  have f9 := hts (.fieldLink RX3 9 "StickyHeap$Space" "sort" "[I") (by decide +kernel)
  have f21 := hts (.fieldLink RX3 21 "StickyHeap$Space" "words" "[I") (by decide +kernel)
  have f24 := hts (.fieldLink RX3 24 "StickyHeap$Space" "references" "[I") (by decide +kernel)
  have f27 := hts (.fieldLink RX3 27 "StickyHeap$Space" "numbers" "[I") (by decide +kernel)
  have f30 := hts (.fieldLink RX3 30 "StickyHeap$Space" "age" "[I") (by decide +kernel)
  have L25 : ∀ (c : HS) (v1 : Int32) (v2 : Int32) (v3 : Int32) (H : Heap) (locs : List Loc) (ls : Array Slot), pX3_lay_25 c v1 v2 v3 = some c9 → va_P (dC, dI) vwCl (wC ad cA c) H → va_S (fA 17 ad s.heap.size) s.heap H locs → lv_has ls 6 [(0, .ref (ad 1)), (1, .int v1), (2, .int v2), (3, .int v3)] → W p l e (headSpec wsX3_lay ({ frames := 3, cells := 0, slots := 0, locals := 66 })).room s m ([.ref (ad 1), .int a1, .int a2, .int a3]).toArray below meth cd H locs 0 0 (MQ below (gQv (dC, dI) (wC ad cA) (fA 17 ad s.heap.size) c9) ([.ref (ad 1), .int a1, .int a2, .int a3]).toArray s 0 0 (fA 17 ad s.heap.size)) (F0 m 25 ls []) := by
    have L55 : ∀ (n : Nat) (c : HS) (v1 : Int32) (v2 : Int32) (v3 : Int32) (v5 : Int32) (H : Heap) (locs : List Loc) (ls : Array Slot), pX3_lay_55 n c v1 v2 v3 v5 = some c9 → va_P (dC, dI) vwCl (wC ad cA c) H → va_S (fA 17 ad s.heap.size) s.heap H locs → lv_has ls 6 [(0, .ref (ad 1)), (1, .int v1), (2, .int v2), (3, .int v3), (5, .int v5)] → W p l e (headSpec wsX3_lay ({ frames := 3, cells := 0, slots := 0, locals := 66 })).room s m ([.ref (ad 1), .int a1, .int a2, .int a3]).toArray below meth cd H locs 0 0 (MQ below (gQv (dC, dI) (wC ad cA) (fA 17 ad s.heap.size) c9) ([.ref (ad 1), .int a1, .int a2, .int a3]).toArray s 0 0 (fA 17 ad s.heap.size)) (F0 m 55 ls []) := by
      intro n
      induction n with
      | zero =>
        intro c v1 v2 v3 v5 H locs ls hM
        exact absurd (Eq.symm (hM : none = some c9)) sm_ne
      | succ n55 ih55 =>
        intro c v1 v2 v3 v5 H locs ls hM hP hS hl
        unfold pX3_lay_55 at hM
        refine lv_iload hx hb dX3_lay_55 (lv_at hl 4 rfl) ?_
        refine lv_iload_n hx hb dX3_lay_57 rfl (lv_at hl 2 rfl) ?_
        refine lv_iload_n hx hb dX3_lay_58 rfl (lv_at hl 3 rfl) ?_
        refine lv_iadd hx hb dX3_lay_59 ?_
        refine lv_icmp_ge (tgt := 89) hx hb dX3_lay_60 (by decide) (fun e6 => ?_) (fun e6 => ?_)
        · have hM := it_p e6 hM
          exact W.vret hx hb hr (fun t ht hW => ⟨⟨_, rfl, pr1 hM, hPt ht hP⟩, hS.F ht⟩) hS.2.2 dX3_lay_89
        · have hM := it_n e6 hM
          refine lv_aload_n hx hb dX3_lay_63 rfl (lv_at hl 0 rfl) ?_
          refine gget (v := .ref (ad 8)) hx hb hts i3 hown hK1 hP 1 rfl rfl 5 (by decide) f21 rfl rfl dX3_lay_64 ?_
          refine lv_iload_n hx hb dX3_lay_67 rfl (lv_at hl 1 rfl) ?_
          refine lv_iload hx hb dX3_lay_68 (lv_at hl 4 rfl) ?_
          refine lv_iadd hx hb dX3_lay_70 ?_
          refine lv_iload hx hb dX3_lay_71 (lv_at hl 4 rfl) ?_
          refine lv_iload_n hx hb dX3_lay_73 rfl (lv_at hl 2 rfl) ?_
          refine lv_icmp_ge (tgt := 81) hx hb dX3_lay_74 (by decide) (fun e5 => ?_) (fun e5 => ?_)
          · have hM := it_p e5 hM
            refine lv_iconst (v := 0) hx hb dX3_lay_81 (by decide) ?_
            obtain ⟨h2, c1, hc1, hM⟩ := stA_some sm_ne hM
            refine gast (w := wC ad cA) (c := c) (c1 := c1) hx hb hK1 hP (hD c) hS 8 3 rfl rfl h2 (by rw [hc1]; rfl) dX3_lay_82 (fun H locs hP hS => ?_)
            refine lv_iinc (v := v5 + 1) (lv' := [(5, .int (v5 + 1)), (0, .ref (ad 1)), (1, .int v1), (2, .int v2), (3, .int v3)]) hx hb dX3_lay_83 hl (k := 4) rfl rfl (by decide) rfl (fun ls hl => ?_)
            refine lv_goto (tgt := 55) hx hb dX3_lay_86 (by decide) ?_
            exact ih55 _ _ _ _ _ _ _ _ hM hP hS (lv_sub hl [1, 2, 3, 4, 0] rfl)
          · have hM := it_n e5 hM
            refine lv_iconst (v := (-1)) hx hb dX3_lay_77 (by decide) ?_
            refine lv_goto (tgt := 82) hx hb dX3_lay_78 (by decide) ?_
            obtain ⟨h4, c3, hc3, hM⟩ := stA_some sm_ne hM
            refine gast (w := wC ad cA) (c := c) (c1 := c3) hx hb hK1 hP (hD c) hS 8 3 rfl rfl h4 (by rw [hc3]; rfl) dX3_lay_82 (fun H locs hP hS => ?_)
            refine lv_iinc (v := v5 + 1) (lv' := [(5, .int (v5 + 1)), (0, .ref (ad 1)), (1, .int v1), (2, .int v2), (3, .int v3)]) hx hb dX3_lay_83 hl (k := 4) rfl rfl (by decide) rfl (fun ls hl => ?_)
            refine lv_goto (tgt := 55) hx hb dX3_lay_86 (by decide) ?_
            exact ih55 _ _ _ _ _ _ _ _ hM hP hS (lv_sub hl [1, 2, 3, 4, 0] rfl)
    intro c v1 v2 v3 H locs ls hM hP hS hl
    unfold pX3_lay_25 at hM
    refine lv_aload_n hx hb dX3_lay_25 rfl (lv_at hl 0 rfl) ?_
    refine gget (v := .ref (ad 9)) hx hb hts i3 hown hK1 hP 1 rfl rfl 6 (by decide) f24 rfl rfl dX3_lay_26 ?_
    refine lv_iload_n hx hb dX3_lay_29 rfl (lv_at hl 1 rfl) ?_
    refine lv_iconst (v := 2) hx hb dX3_lay_30 (by decide) ?_
    refine lv_idiv hx hb dX3_lay_31 (by decide) ?_
    refine lv_iload_n hx hb dX3_lay_32 rfl (lv_at hl 2 rfl) ?_
    obtain ⟨h8, c7, hc7, hM⟩ := stA_some sm_ne hM
    refine gast (w := wC ad cA) (c := c) (c1 := c7) hx hb hK1 hP (hD c) hS 9 4 rfl rfl h8 (by rw [hc7]; rfl) dX3_lay_33 (fun H locs hP hS => ?_)
    refine lv_aload_n hx hb dX3_lay_34 rfl (lv_at hl 0 rfl) ?_
    refine gget (v := .ref (ad 10)) hx hb hts i3 hown hK1 hP 1 rfl rfl 7 (by decide) f27 rfl rfl dX3_lay_35 ?_
    refine lv_iload_n hx hb dX3_lay_38 rfl (lv_at hl 1 rfl) ?_
    refine lv_iconst (v := 2) hx hb dX3_lay_39 (by decide) ?_
    refine lv_idiv hx hb dX3_lay_40 (by decide) ?_
    refine lv_iload_n hx hb dX3_lay_41 rfl (lv_at hl 3 rfl) ?_
    obtain ⟨h10, c9, hc9, hM⟩ := stA_some sm_ne hM
    refine gast (w := wC ad cA) (c := c7) (c1 := c9) hx hb hK1 hP (hD c7) hS 10 5 rfl rfl h10 (by rw [hc9]; rfl) dX3_lay_42 (fun H locs hP hS => ?_)
    refine lv_aload_n hx hb dX3_lay_43 rfl (lv_at hl 0 rfl) ?_
    refine gget (v := .ref (ad 11)) hx hb hts i3 hown hK1 hP 1 rfl rfl 8 (by decide) f30 rfl rfl dX3_lay_44 ?_
    refine lv_iload_n hx hb dX3_lay_47 rfl (lv_at hl 1 rfl) ?_
    refine lv_iconst (v := 2) hx hb dX3_lay_48 (by decide) ?_
    refine lv_idiv hx hb dX3_lay_49 (by decide) ?_
    refine lv_iconst (v := 1) hx hb dX3_lay_50 (by decide) ?_
    obtain ⟨h12, c11, hc11, hM⟩ := stA_some sm_ne hM
    refine gast (w := wC ad cA) (c := c9) (c1 := c11) hx hb hK1 hP (hD c9) hS 11 6 rfl rfl h12 (by rw [hc11]; rfl) dX3_lay_51 (fun H locs hP hS => ?_)
    refine lv_iconst (v := 0) hx hb dX3_lay_52 (by decide) ?_
    refine lv_istore (lv' := [(5, .int 0), (0, .ref (ad 1)), (1, .int v1), (2, .int v2), (3, .int v3)]) hx hb dX3_lay_53 hl (by decide) rfl (fun ls hl => ?_)
    exact L55 _ _ _ _ _ _ _ _ _ hM hP hS (lv_sub hl [1, 2, 3, 4, 0] rfl)
  have hl := lv_entry [.ref (ad 1), .int a1, .int a2, .int a3] (n := 6) (Nat.le_of_ble_eq_true rfl)
  rw [lg_entry_eq]
  generalize (lg_sl [.ref (ad 1), .int a1, .int a2, .int a3] ++ List.replicate (6 - (lg_sl [.ref (ad 1), .int a1, .int a2, .int a3]).length) Slot.unset).toArray = ls at hl ⊢
  have hl : lv_has ls 6 [(0, .ref (ad 1)), (1, .int a1), (2, .int a2), (3, .int a3)] := hl
  have hP : va_P (dC, dI) vwCl (wC ad cA c) s.heap := hP
  unfold pX3_lay at hM
  refine lv_iload_n hx hb dX3_lay_0 rfl (lv_at hl 1 rfl) ?_
  refine lv_bipush (v := 64) hx hb dX3_lay_1 (by decide) ?_
  refine lv_idiv hx hb dX3_lay_3 (by decide) ?_
  refine lv_istore (lv' := [(4, .int (a1 / 64)), (0, .ref (ad 1)), (1, .int a1), (2, .int a2), (3, .int a3)]) hx hb dX3_lay_4 hl (by decide) rfl (fun ls hl => ?_)
  refine lv_aload_n hx hb dX3_lay_6 rfl (lv_at hl 1 rfl) ?_
  refine gget (v := .ref (ad 5)) hx hb hts i3 hown hK1 hP 1 rfl rfl 2 (by decide) f9 rfl rfl dX3_lay_7 ?_
  refine lv_iload hx hb dX3_lay_10 (lv_at hl 0 rfl) ?_
  obtain ⟨h14, x13, hx13, hM⟩ := ldA_some sm_ne hM
  refine gald hx hb hK1 hP 5 0 rfl rfl h14 hx13 dX3_lay_12 ?_
  refine lv_if_ne (tgt := 25) hx hb dX3_lay_13 (by decide) (fun e17 => ?_) (fun e17 => ?_)
  · have hM := it_n e17 hM
    exact L25 _ _ _ _ _ _ _ hM hP hS (lv_sub hl [1, 2, 3, 4] rfl)
  · have hM := it_p e17 hM
    refine lv_aload_n hx hb dX3_lay_16 rfl (lv_at hl 1 rfl) ?_
    refine lv_iload hx hb dX3_lay_17 (lv_at hl 0 rfl) ?_
    refine lv_iload_n hx hb dX3_lay_19 rfl (lv_at hl 3 rfl) ?_
    refine lv_iload_n hx hb dX3_lay_20 rfl (lv_at hl 4 rfl) ?_
    refine lv_iadd hx hb dX3_lay_21 ?_
    obtain ⟨c16, h15, hM⟩ := bd1_some sm_ne hM
    refine gCv (gV (As := [.int (a1 / 64), .int (a2 + a3)]) (rest := []) ⟨hx, hb, hml, hown, hts⟩ (kX3_take l dC dI ad cA hap _ c (a1 / 64) (a2 + a3) _ h15) (cwV 2 hts gX3_lay_X3_take rfl rfl rfl (by decide +kernel) ⟨Nat.le_of_ble_eq_true rfl, Nat.le_of_ble_eq_true rfl⟩) (kC_st _ _) hK hP (va_recv hK1 hP (ci := 3) (q0 := 1) rfl rfl) rfl hl.1 rfl (Nat.le_of_ble_eq_true rfl) dX3_lay_22 ⟨Nat.zero_le _, Nat.zero_le _⟩) hS (fun H locs hP hS => ?_)
    exact L25 _ _ _ _ _ _ _ hM hP hS (lv_sub hl [1, 2, 3, 4] rfl)
set_option maxHeartbeats 4000000 in
set_option maxRecDepth 100000 in
theorem kX4_make (l : Launch) (dC : Nat → ClassId) (dI : Nat → Nat → Nat) (ad : Nat → Nat) (cA : Nat → ClassId) (hap : apart 17 ad) (sz : Nat) (c : HS) (a1 : Int32) (a2 : Int32) (r0 : Int32) (c9 : HS) (hM : pX4_make c a1 a2 = some (r0, c9)) : Met l yX4_make wsX4_make ({ frames := 6, cells := 0, slots := 0, locals := 128 }) (gP (dC, dI) (wC ad cA) (kC (dC, dI) cA) c sz [.ref (ad 0), .int a1, .int a2]) (gQi (dC, dI) (wC ad cA) (fA 17 ad sz) r0 c9) 0 0 (fA 17 ad sz) := by
  refine Met.ofW (cc := cX4_make) (maxL := 4) (ret := (some .int)) (by decide) rfl ?_
  intro p e s m args below meth cd s₁ B hml hv
  obtain ⟨rfl, rfl, hP, hK⟩ := hv
  have hx := B.exec
  have hb := B.bytes
  have hr := B.returns
  have hts := atoms_spec (ws := wsX4_make) B.pre
  have hown : s.vm.findClass RX4 = some m.cls := findClass_of_methodNamed B.named
  have hlocks := B.notSynchronized
  have hK1 : va_K (dC, dI) vwCl (tC cA) s := hK.1
  have hD : ∀ c, va_D (fA 17 ad s.heap.size) (wC ad cA c) := fun c => dC_ok hap cA c _
  have hS : va_S (fA 17 ad s.heap.size) s.heap s.heap [] := va_S.rf
  have i4 : ∀ w ∈ u_ws RX4 TX4 7, w ∈ wsX4_make := by decide +kernel
  have f12 := hts (.fieldLink RX4 12 "StickyHeap" "space" "LStickyHeap$Space;") (by decide +kernel)
  have f78 := hts (.fieldLink RX4 78 "StickyHeap" "made" "I") (by decide +kernel)
  have hl := lv_entry [.ref (ad 0), .int a1, .int a2] (n := 4) (Nat.le_of_ble_eq_true rfl)
  rw [lg_entry_eq]
  generalize (lg_sl [.ref (ad 0), .int a1, .int a2] ++ List.replicate (4 - (lg_sl [.ref (ad 0), .int a1, .int a2]).length) Slot.unset).toArray = ls at hl ⊢
  have hl : lv_has ls 4 [(0, .ref (ad 0)), (1, .int a1), (2, .int a2)] := hl
  have hP : va_P (dC, dI) vwCl (wC ad cA c) s.heap := hP
  unfold pX4_make at hM
  refine lv_iload_n hx hb dX4_make_0 rfl (lv_at hl 1 rfl) ?_
  refine lv_iload_n hx hb dX4_make_1 rfl (lv_at hl 2 rfl) ?_
  refine gCi (gS (As := [.int a1, .int a2]) (rest := []) ⟨hx, hb, hml, hown, hts⟩ (kX4_isShape l dC dI ad cA hap _ c a1 a2 _ rfl) (va_cwS 2 hts gX4_make_X4_isShape rfl rfl rfl (by decide +kernel) ⟨Nat.le_of_ble_eq_true rfl, Nat.le_of_ble_eq_true rfl⟩) (kC_st _ _) hK hP rfl hl.1 rfl (Nat.le_of_ble_eq_true rfl) dX4_make_2 ⟨Nat.zero_le _, Nat.zero_le _⟩) hS (fun H locs hP hS => ?_)
  refine lv_if_ne (tgt := 11) hx hb dX4_make_5 (by decide) (fun e8 => ?_) (fun e8 => ?_)
  · have hM := it_n e8 hM
    refine lv_aload_n hx hb dX4_make_11 rfl (lv_at hl 0 rfl) ?_
    refine lv_iload_n hx hb dX4_make_12 rfl (lv_at hl 1 rfl) ?_
    refine lv_iload_n hx hb dX4_make_13 rfl (lv_at hl 2 rfl) ?_
    refine lv_iadd hx hb dX4_make_14 ?_
    obtain ⟨r3, c2, h1, hM⟩ := bd2_some sm_ne hM
    refine gCi (gV (As := [.int (a1 + a2)]) (rest := []) ⟨hx, hb, hml, hown, hts⟩ (kX4_placeFor l dC dI ad cA hap _ c (a1 + a2) _ _ h1) (cwV 1 hts gX4_make_X4_placeFor rfl rfl rfl (by decide +kernel) ⟨Nat.le_of_ble_eq_true rfl, Nat.le_of_ble_eq_true rfl⟩) (kC_st _ _) hK hP (va_recv hK1 hP (ci := 4) (q0 := 0) rfl rfl) rfl hl.1 rfl (Nat.le_of_ble_eq_true rfl) dX4_make_15 ⟨Nat.zero_le _, Nat.zero_le _⟩) hS (fun H locs hP hS => ?_)
    refine lv_istore_n (lv' := [(3, .int r3), (0, .ref (ad 0)), (1, .int a1), (2, .int a2)]) hx hb dX4_make_18 rfl hl (by decide) rfl (fun ls hl => ?_)
    refine lv_iload_n hx hb dX4_make_19 rfl (lv_at hl 0 rfl) ?_
    refine lv_iconst (v := (-1)) hx hb dX4_make_20 (by decide) ?_
    refine lv_icmp_ne (tgt := 27) hx hb dX4_make_21 (by decide) (fun e7 => ?_) (fun e7 => ?_)
    · have hM := it_n e7 hM
      refine lv_aload_n hx hb dX4_make_27 rfl (lv_at hl 1 rfl) ?_
      refine gget (v := .ref (ad 1)) hx hb hts i4 hown hK1 hP 0 rfl rfl 0 (by decide) f12 rfl rfl dX4_make_28 ?_
      refine lv_iload_n hx hb dX4_make_31 rfl (lv_at hl 0 rfl) ?_
      refine lv_iload_n hx hb dX4_make_32 rfl (lv_at hl 2 rfl) ?_
      refine lv_iload_n hx hb dX4_make_33 rfl (lv_at hl 3 rfl) ?_
      obtain ⟨c5, h4, hM⟩ := bd1_some sm_ne hM
      refine gCv (gV (As := [.int r3, .int a1, .int a2]) (rest := []) ⟨hx, hb, hml, hown, hts⟩ (kX3_lay l dC dI ad cA hap _ c2 r3 a1 a2 _ h4) (cwV 3 hts gX4_make_X3_lay rfl rfl rfl (by decide +kernel) ⟨Nat.le_of_ble_eq_true rfl, Nat.le_of_ble_eq_true rfl⟩) (kC_st _ _) hK hP (va_recv hK1 hP (ci := 3) (q0 := 1) rfl rfl) rfl hl.1 rfl (Nat.le_of_ble_eq_true rfl) dX4_make_34 ⟨Nat.zero_le _, Nat.zero_le _⟩) hS (fun H locs hP hS => ?_)
      refine lv_aload_n hx hb dX4_make_37 rfl (lv_at hl 1 rfl) ?_
      refine lv_dup hx hb dX4_make_38 rfl ?_
      refine gget (v := .int (c5.1 0 13)) hx hb hts i4 hown hK1 hP 0 rfl rfl 6 (by decide) f78 rfl rfl dX4_make_39 ?_
      refine lv_iconst (v := 1) hx hb dX4_make_42 (by decide) ?_
      refine lv_iadd hx hb dX4_make_43 ?_
      obtain ⟨c6, hc6, hM⟩ := pfA_some hM
      refine gput (w := wC ad cA) (c := c5) (c1 := c6) (v := .int ((c5.1 0 13) + 1)) hx hb hts i4 tyX4 tyX4_ok nmX4 hown hK1 hP (hD c5) hS 0 rfl rfl 6 (by decide) f78 rfl rfl rfl rfl (Nat.le_of_ble_eq_true rfl) (by rw [hc6]; rfl) dX4_make_44 (fun H locs hP hS => ?_)
      refine lv_iload_n hx hb dX4_make_47 rfl (lv_at hl 0 rfl) ?_
      exact W.iret hx hb hr (fun t ht hW => ⟨⟨_, _, rfl, pr2 hM, hPt ht hP⟩, hS.F ht⟩) hS.2.2 dX4_make_48
    · have hM := it_p e7 hM
      refine lv_bipush (v := (-104)) hx hb dX4_make_24 (by decide) ?_
      exact W.iret hx hb hr (fun t ht hW => ⟨⟨_, _, rfl, pr2 hM, hPt ht hP⟩, hS.F ht⟩) hS.2.2 dX4_make_26
  · have hM := it_p e8 hM
    refine lv_bipush (v := (-102)) hx hb dX4_make_8 (by decide) ?_
    exact W.iret hx hb hr (fun t ht hW => ⟨⟨_, _, rfl, pr2 hM, hPt ht hP⟩, hS.F ht⟩) hS.2.2 dX4_make_10
set_option maxHeartbeats 4000000 in
set_option maxRecDepth 100000 in
theorem kX4_isThingOrNone (l : Launch) (dC : Nat → ClassId) (dI : Nat → Nat → Nat) (ad : Nat → Nat) (cA : Nat → ClassId) (hap : apart 17 ad) (sz : Nat) (c : HS) (a1 : Int32) (r0 : Int32) (hM : pX4_isThingOrNone c a1 = some r0) : Met l yX4_isThingOrNone wsX4_isThingOrNone ({ frames := 1, cells := 0, slots := 0, locals := 21 }) (gP (dC, dI) (wC ad cA) (kC (dC, dI) cA) c sz [.ref (ad 0), .int a1]) (gQi (dC, dI) (wC ad cA) (fA 17 ad sz) r0 c) 0 0 (fA 17 ad sz) := by
  refine Met.ofW (cc := cX4_isThingOrNone) (maxL := 2) (ret := (some .boolean)) (by decide) rfl ?_
  intro p e s m args below meth cd s₁ B hml hv
  obtain ⟨rfl, rfl, hP, hK⟩ := hv
  have hx := B.exec
  have hb := B.bytes
  have hr := B.returns
  have hts := atoms_spec (ws := wsX4_isThingOrNone) B.pre
  have hown : s.vm.findClass RX4 = some m.cls := findClass_of_methodNamed B.named
  have hlocks := B.notSynchronized
  have hK1 : va_K (dC, dI) vwCl (tC cA) s := hK.1
  have hD : ∀ c, va_D (fA 17 ad s.heap.size) (wC ad cA c) := fun c => dC_ok hap cA c _
  have hS : va_S (fA 17 ad s.heap.size) s.heap s.heap [] := va_S.rf
  have i4 : ∀ w ∈ u_ws RX4 TX4 7, w ∈ wsX4_isThingOrNone := by decide +kernel
  have f12 := hts (.fieldLink RX4 12 "StickyHeap" "space" "LStickyHeap$Space;") (by decide +kernel)
  have hl := lv_entry [.ref (ad 0), .int a1] (n := 2) (Nat.le_of_ble_eq_true rfl)
  rw [lg_entry_eq]
  generalize (lg_sl [.ref (ad 0), .int a1] ++ List.replicate (2 - (lg_sl [.ref (ad 0), .int a1]).length) Slot.unset).toArray = ls at hl ⊢
  have hl : lv_has ls 2 [(0, .ref (ad 0)), (1, .int a1)] := hl
  have hP : va_P (dC, dI) vwCl (wC ad cA c) s.heap := hP
  unfold pX4_isThingOrNone at hM
  refine lv_iload_n hx hb dX4_isThingOrNone_0 rfl (lv_at hl 1 rfl) ?_
  refine lv_iconst (v := (-1)) hx hb dX4_isThingOrNone_1 (by decide) ?_
  refine lv_icmp_eq (tgt := 16) hx hb dX4_isThingOrNone_2 (by decide) (fun e4 => ?_) (fun e4 => ?_)
  · have hM := it_p e4 hM
    refine lv_iconst (v := 1) hx hb dX4_isThingOrNone_16 (by decide) ?_
    refine lv_goto (tgt := 21) hx hb dX4_isThingOrNone_17 (by decide) ?_
    exact W.zret hx hb hr rfl (fun t ht hW => ⟨⟨_, _, rfl, ⟨pr1 hM, rfl⟩, hPt ht hP⟩, hS.F ht⟩) hS.2.2 dX4_isThingOrNone_21
  · have hM := it_n e4 hM
    refine lv_aload_n hx hb dX4_isThingOrNone_5 rfl (lv_at hl 0 rfl) ?_
    refine gget (v := .ref (ad 1)) hx hb hts i4 hown hK1 hP 0 rfl rfl 0 (by decide) f12 rfl rfl dX4_isThingOrNone_6 ?_
    refine lv_iload_n hx hb dX4_isThingOrNone_9 rfl (lv_at hl 1 rfl) ?_
    obtain ⟨r2, h1, hM⟩ := bd1_some sm_ne hM
    refine gCi (gV (As := [.int a1]) (rest := []) ⟨hx, hb, hml, hown, hts⟩ (kX3_isThing l dC dI ad cA hap _ c a1 _ h1) (cwV 1 hts gX4_isThingOrNone_X3_isThing rfl rfl rfl (by decide +kernel) ⟨Nat.le_of_ble_eq_true rfl, Nat.le_of_ble_eq_true rfl⟩) (kC_st _ _) hK hP (va_recv hK1 hP (ci := 3) (q0 := 1) rfl rfl) rfl hl.1 rfl (Nat.le_of_ble_eq_true rfl) dX4_isThingOrNone_10 ⟨Nat.zero_le _, Nat.zero_le _⟩) hS (fun H locs hP hS => ?_)
    refine lv_if_eq (tgt := 20) hx hb dX4_isThingOrNone_13 (by decide) (fun e3 => ?_) (fun e3 => ?_)
    · have hM := it_p e3 hM
      refine lv_iconst (v := 0) hx hb dX4_isThingOrNone_20 (by decide) ?_
      exact W.zret hx hb hr rfl (fun t ht hW => ⟨⟨_, _, rfl, ⟨pr1 hM, rfl⟩, hPt ht hP⟩, hS.F ht⟩) hS.2.2 dX4_isThingOrNone_21
    · have hM := it_n e3 hM
      refine lv_iconst (v := 1) hx hb dX4_isThingOrNone_16 (by decide) ?_
      refine lv_goto (tgt := 21) hx hb dX4_isThingOrNone_17 (by decide) ?_
      exact W.zret hx hb hr rfl (fun t ht hW => ⟨⟨_, _, rfl, ⟨pr1 hM, rfl⟩, hPt ht hP⟩, hS.F ht⟩) hS.2.2 dX4_isThingOrNone_21
set_option maxHeartbeats 4000000 in
set_option maxRecDepth 100000 in
theorem kX3_hasReference (l : Launch) (dC : Nat → ClassId) (dI : Nat → Nat → Nat) (ad : Nat → Nat) (cA : Nat → ClassId) (hap : apart 17 ad) (sz : Nat) (c : HS) (a1 : Int32) (a2 : Int32) (r0 : Int32) (hM : pX3_hasReference c a1 a2 = some r0) : Met l yX3_hasReference wsX3_hasReference ({ frames := 2, cells := 0, slots := 0, locals := 42 }) (gP (dC, dI) (wC ad cA) (kC (dC, dI) cA) c sz [.ref (ad 1), .int a1, .int a2]) (gQi (dC, dI) (wC ad cA) (fA 17 ad sz) r0 c) 0 0 (fA 17 ad sz) := by
  refine Met.ofW (cc := cX3_hasReference) (maxL := 3) (ret := (some .boolean)) (by decide) rfl ?_
  intro p e s m args below meth cd s₁ B hml hv
  obtain ⟨rfl, rfl, hP, hK⟩ := hv
  have hx := B.exec
  have hb := B.bytes
  have hr := B.returns
  have hts := atoms_spec (ws := wsX3_hasReference) B.pre
  have hown : s.vm.findClass RX3 = some m.cls := findClass_of_methodNamed B.named
  have hlocks := B.notSynchronized
  have hK1 : va_K (dC, dI) vwCl (tC cA) s := hK.1
  have hD : ∀ c, va_D (fA 17 ad s.heap.size) (wC ad cA c) := fun c => dC_ok hap cA c _
  have hS : va_S (fA 17 ad s.heap.size) s.heap s.heap [] := va_S.rf
  have hl := lv_entry [.ref (ad 1), .int a1, .int a2] (n := 3) (Nat.le_of_ble_eq_true rfl)
  rw [lg_entry_eq]
  generalize (lg_sl [.ref (ad 1), .int a1, .int a2] ++ List.replicate (3 - (lg_sl [.ref (ad 1), .int a1, .int a2]).length) Slot.unset).toArray = ls at hl ⊢
  have hl : lv_has ls 3 [(0, .ref (ad 1)), (1, .int a1), (2, .int a2)] := hl
  have hP : va_P (dC, dI) vwCl (wC ad cA c) s.heap := hP
  unfold pX3_hasReference at hM
  refine lv_iload_n hx hb dX3_hasReference_0 rfl (lv_at hl 2 rfl) ?_
  refine lv_if_lt (tgt := 17) hx hb dX3_hasReference_1 (by decide) (fun e4 => ?_) (fun e4 => ?_)
  · have hM := it_p e4 hM
    refine lv_iconst (v := 0) hx hb dX3_hasReference_17 (by decide) ?_
    exact W.zret hx hb hr rfl (fun t ht hW => ⟨⟨_, _, rfl, ⟨pr1 hM, rfl⟩, hPt ht hP⟩, hS.F ht⟩) hS.2.2 dX3_hasReference_18
  · have hM := it_n e4 hM
    refine lv_iload_n hx hb dX3_hasReference_4 rfl (lv_at hl 2 rfl) ?_
    refine lv_aload_n hx hb dX3_hasReference_5 rfl (lv_at hl 0 rfl) ?_
    refine lv_iload_n hx hb dX3_hasReference_6 rfl (lv_at hl 1 rfl) ?_
    obtain ⟨r2, h1, hM⟩ := bd1_some sm_ne hM
    refine gCi (gV (As := [.int a1]) (rest := [.int a2]) ⟨hx, hb, hml, hown, hts⟩ (kX3_referencesOf l dC dI ad cA hap _ c a1 _ h1) (cwV 1 hts gX3_hasReference_X3_referencesOf rfl rfl rfl (by decide +kernel) ⟨Nat.le_of_ble_eq_true rfl, Nat.le_of_ble_eq_true rfl⟩) (kC_st _ _) hK hP (va_recv hK1 hP (ci := 3) (q0 := 1) rfl rfl) rfl hl.1 rfl (Nat.le_of_ble_eq_true rfl) dX3_hasReference_7 ⟨Nat.zero_le _, Nat.zero_le _⟩) hS (fun H locs hP hS => ?_)
    refine lv_icmp_ge (tgt := 17) hx hb dX3_hasReference_10 (by decide) (fun e3 => ?_) (fun e3 => ?_)
    · have hM := it_p e3 hM
      refine lv_iconst (v := 0) hx hb dX3_hasReference_17 (by decide) ?_
      exact W.zret hx hb hr rfl (fun t ht hW => ⟨⟨_, _, rfl, ⟨pr1 hM, rfl⟩, hPt ht hP⟩, hS.F ht⟩) hS.2.2 dX3_hasReference_18
    · have hM := it_n e3 hM
      refine lv_iconst (v := 1) hx hb dX3_hasReference_13 (by decide) ?_
      refine lv_goto (tgt := 18) hx hb dX3_hasReference_14 (by decide) ?_
      exact W.zret hx hb hr rfl (fun t ht hW => ⟨⟨_, _, rfl, ⟨pr1 hM, rfl⟩, hPt ht hP⟩, hS.F ht⟩) hS.2.2 dX3_hasReference_18
set_option maxHeartbeats 4000000 in
set_option maxRecDepth 100000 in
theorem kX2_enter (l : Launch) (dC : Nat → ClassId) (dI : Nat → Nat → Nat) (ad : Nat → Nat) (cA : Nat → ClassId) (hap : apart 17 ad) (sz : Nat) (c : HS) (a1 : Int32) (c9 : HS) (hM : pX2_enter c a1 = some c9) : Met l yX2_enter wsX2_enter ({ frames := 0, cells := 0, slots := 0, locals := 0 }) (gP (dC, dI) (wC ad cA) (kC (dC, dI) cA) c sz [.ref (ad 2), .int a1]) (gQv (dC, dI) (wC ad cA) (fA 17 ad sz) c9) 0 0 (fA 17 ad sz) := by
  refine Met.ofW (cc := cX2_enter) (maxL := 2) (ret := none) (by decide) rfl ?_
  intro p e s m args below meth cd s₁ B hml hv
  obtain ⟨rfl, rfl, hP, hK⟩ := hv
  have hx := B.exec
  have hb := B.bytes
  have hr := B.returns
  have hts := atoms_spec (ws := wsX2_enter) B.pre
  have hown : s.vm.findClass RX2 = some m.cls := findClass_of_methodNamed B.named
  have hlocks := B.notSynchronized
  have hK1 : va_K (dC, dI) vwCl (tC cA) s := hK.1
  have hD : ∀ c, va_D (fA 17 ad s.heap.size) (wC ad cA c) := fun c => dC_ok hap cA c _
  have hS : va_S (fA 17 ad s.heap.size) s.heap s.heap [] := va_S.rf
  have i2 : ∀ w ∈ u_ws RX2 TX2 5, w ∈ wsX2_enter := by decide +kernel
  have f15 := hts (.fieldLink RX2 15 "StickyHeap$Memory" "log" "[I") (by decide +kernel)
  have f22 := hts (.fieldLink RX2 22 "StickyHeap$Memory" "size" "I") (by decide +kernel)
  have f25 := hts (.fieldLink RX2 25 "StickyHeap$Memory" "over" "Z") (by decide +kernel)
  have hl := lv_entry [.ref (ad 2), .int a1] (n := 2) (Nat.le_of_ble_eq_true rfl)
  rw [lg_entry_eq]
  generalize (lg_sl [.ref (ad 2), .int a1] ++ List.replicate (2 - (lg_sl [.ref (ad 2), .int a1]).length) Slot.unset).toArray = ls at hl ⊢
  have hl : lv_has ls 2 [(0, .ref (ad 2)), (1, .int a1)] := hl
  have hP : va_P (dC, dI) vwCl (wC ad cA c) s.heap := hP
  unfold pX2_enter at hM
  refine lv_aload_n hx hb dX2_enter_0 rfl (lv_at hl 0 rfl) ?_
  refine gget (v := .int (c.1 0 3)) hx hb hts i2 hown hK1 hP 2 rfl rfl 2 (by decide) f22 rfl rfl dX2_enter_1 ?_
  refine lv_bipush (v := 12) hx hb dX2_enter_4 (by decide) ?_
  refine lv_icmp_lt (tgt := 15) hx hb dX2_enter_6 (by decide) (fun e5 => ?_) (fun e5 => ?_)
  · have hM := it_p e5 hM
    refine lv_aload_n hx hb dX2_enter_15 rfl (lv_at hl 0 rfl) ?_
    refine gget (v := .ref (ad 12)) hx hb hts i2 hown hK1 hP 2 rfl rfl 1 (by decide) f15 rfl rfl dX2_enter_16 ?_
    refine lv_aload_n hx hb dX2_enter_19 rfl (lv_at hl 0 rfl) ?_
    refine gget (v := .int (c.1 0 3)) hx hb hts i2 hown hK1 hP 2 rfl rfl 2 (by decide) f22 rfl rfl dX2_enter_20 ?_
    refine lv_iload_n hx hb dX2_enter_23 rfl (lv_at hl 1 rfl) ?_
    obtain ⟨h2, c1, hc1, hM⟩ := stA_some sm_ne hM
    refine gast (w := wC ad cA) (c := c) (c1 := c1) hx hb hK1 hP (hD c) hS 12 7 rfl rfl h2 (by rw [hc1]; rfl) dX2_enter_24 (fun H locs hP hS => ?_)
    refine lv_aload_n hx hb dX2_enter_25 rfl (lv_at hl 0 rfl) ?_
    refine lv_dup hx hb dX2_enter_26 rfl ?_
    refine gget (v := .int (c1.1 0 3)) hx hb hts i2 hown hK1 hP 2 rfl rfl 2 (by decide) f22 rfl rfl dX2_enter_27 ?_
    refine lv_iconst (v := 1) hx hb dX2_enter_30 (by decide) ?_
    refine lv_iadd hx hb dX2_enter_31 ?_
    obtain ⟨c3, hc3, hM⟩ := pfA_some hM
    refine gput (w := wC ad cA) (c := c1) (c1 := c3) (v := .int ((c1.1 0 3) + 1)) hx hb hts i2 tyX2 tyX2_ok nmX2 hown hK1 hP (hD c1) hS 2 rfl rfl 2 (by decide) f22 rfl rfl rfl rfl (Nat.le_of_ble_eq_true rfl) (by rw [hc3]; rfl) dX2_enter_32 (fun H locs hP hS => ?_)
    exact W.vret hx hb hr (fun t ht hW => ⟨⟨_, rfl, pr1 hM, hPt ht hP⟩, hS.F ht⟩) hS.2.2 dX2_enter_35
  · have hM := it_n e5 hM
    refine lv_aload_n hx hb dX2_enter_9 rfl (lv_at hl 0 rfl) ?_
    refine lv_iconst (v := 1) hx hb dX2_enter_10 (by decide) ?_
    obtain ⟨c4, hc4, hM⟩ := pfA_some hM
    refine gput (w := wC ad cA) (c := c) (c1 := c4) (v := .int 1) hx hb hts i2 tyX2 tyX2_ok nmX2 hown hK1 hP (hD c) hS 2 rfl rfl 3 (by decide) f25 rfl rfl rfl rfl (Nat.le_of_ble_eq_true rfl) (by rw [hc4]; rfl) dX2_enter_11 (fun H locs hP hS => ?_)
    exact W.vret hx hb hr (fun t ht hW => ⟨⟨_, rfl, pr1 hM, hPt ht hP⟩, hS.F ht⟩) hS.2.2 dX2_enter_14
set_option maxHeartbeats 4000000 in
set_option maxRecDepth 100000 in
theorem kX2_noteWrite (l : Launch) (dC : Nat → ClassId) (dI : Nat → Nat → Nat) (ad : Nat → Nat) (cA : Nat → ClassId) (hap : apart 17 ad) (sz : Nat) (c : HS) (a1 : Int32) (a2 : Int32) (a3 : Int32) (c9 : HS) (hM : pX2_noteWrite c a1 a2 a3 = some c9) : Met l yX2_noteWrite wsX2_noteWrite ({ frames := 1, cells := 0, slots := 0, locals := 22 }) (gP (dC, dI) (wC ad cA) (kC (dC, dI) cA) c sz [.ref (ad 2), .int a1, .int a2, .int a3]) (gQv (dC, dI) (wC ad cA) (fA 17 ad sz) c9) 0 0 (fA 17 ad sz) := by
  refine Met.ofW (cc := cX2_noteWrite) (maxL := 4) (ret := none) (by decide) rfl ?_
  intro p e s m args below meth cd s₁ B hml hv
  obtain ⟨rfl, rfl, hP, hK⟩ := hv
  have hx := B.exec
  have hb := B.bytes
  have hr := B.returns
  have hts := atoms_spec (ws := wsX2_noteWrite) B.pre
  have hown : s.vm.findClass RX2 = some m.cls := findClass_of_methodNamed B.named
  have hlocks := B.notSynchronized
  have hK1 : va_K (dC, dI) vwCl (tC cA) s := hK.1
  have hD : ∀ c, va_D (fA 17 ad s.heap.size) (wC ad cA c) := fun c => dC_ok hap cA c _
  have hS : va_S (fA 17 ad s.heap.size) s.heap s.heap [] := va_S.rf
  have i2 : ∀ w ∈ u_ws RX2 TX2 5, w ∈ wsX2_noteWrite := by decide +kernel
  have f9 := hts (.fieldLink RX2 9 "StickyHeap$Memory" "way" "I") (by decide +kernel)
  have f19 := hts (.fieldLink RX2 19 "StickyHeap$Memory" "dirty" "[I") (by decide +kernel)
  have f25 := hts (.fieldLink RX2 25 "StickyHeap$Memory" "over" "Z") (by decide +kernel)
  have hl := lv_entry [.ref (ad 2), .int a1, .int a2, .int a3] (n := 4) (Nat.le_of_ble_eq_true rfl)
  rw [lg_entry_eq]
  generalize (lg_sl [.ref (ad 2), .int a1, .int a2, .int a3] ++ List.replicate (4 - (lg_sl [.ref (ad 2), .int a1, .int a2, .int a3]).length) Slot.unset).toArray = ls at hl ⊢
  have hl : lv_has ls 4 [(0, .ref (ad 2)), (1, .int a1), (2, .int a2), (3, .int a3)] := hl
  have hP : va_P (dC, dI) vwCl (wC ad cA c) s.heap := hP
  unfold pX2_noteWrite at hM
  refine lv_aload_n hx hb dX2_noteWrite_0 rfl (lv_at hl 0 rfl) ?_
  refine gget (v := .int (c.1 0 2)) hx hb hts i2 hown hK1 hP 2 rfl rfl 0 (by decide) f9 rfl rfl dX2_noteWrite_1 ?_
  refine lv_iconst (v := 1) hx hb dX2_noteWrite_4 (by decide) ?_
  refine lv_icmp_ne (tgt := 23) hx hb dX2_noteWrite_5 (by decide) (fun e10 => ?_) (fun e10 => ?_)
  · have hM := it_n e10 hM
    refine lv_iload_n hx hb dX2_noteWrite_23 rfl (lv_at hl 3 rfl) ?_
    refine lv_if_eq (tgt := 47) hx hb dX2_noteWrite_24 (by decide) (fun e7 => ?_) (fun e7 => ?_)
    · have hM := it_p e7 hM
      exact W.vret hx hb hr (fun t ht hW => ⟨⟨_, rfl, pr1 hM, hPt ht hP⟩, hS.F ht⟩) hS.2.2 dX2_noteWrite_47
    · have hM := it_n e7 hM
      refine lv_aload_n hx hb dX2_noteWrite_27 rfl (lv_at hl 0 rfl) ?_
      refine gget (v := .int (c.1 0 4)) hx hb hts i2 hown hK1 hP 2 rfl rfl 3 (by decide) f25 rfl rfl dX2_noteWrite_28 ?_
      refine lv_if_ne (tgt := 47) hx hb dX2_noteWrite_31 (by decide) (fun e6 => ?_) (fun e6 => ?_)
      · have hM := it_n e6 hM
        exact W.vret hx hb hr (fun t ht hW => ⟨⟨_, rfl, pr1 hM, hPt ht hP⟩, hS.F ht⟩) hS.2.2 dX2_noteWrite_47
      · have hM := it_p e6 hM
        refine lv_aload_n hx hb dX2_noteWrite_34 rfl (lv_at hl 0 rfl) ?_
        refine lv_iload_n hx hb dX2_noteWrite_35 rfl (lv_at hl 1 rfl) ?_
        obtain ⟨r2, h1, hM⟩ := bd1_some sm_ne hM
        refine gCi (gV (As := [.int a1]) (rest := []) ⟨hx, hb, hml, hown, hts⟩ (kX2_inLog l dC dI ad cA hap _ c a1 _ h1) (cwV 1 hts gX2_noteWrite_X2_inLog rfl rfl rfl (by decide +kernel) ⟨Nat.le_of_ble_eq_true rfl, Nat.le_of_ble_eq_true rfl⟩) (kC_st _ _) hK hP (va_recv hK1 hP (ci := 2) (q0 := 2) rfl rfl) rfl hl.1 rfl (Nat.le_of_ble_eq_true rfl) dX2_noteWrite_36 ⟨Nat.zero_le _, Nat.zero_le _⟩) hS (fun H locs hP hS => ?_)
        refine lv_if_ne (tgt := 47) hx hb dX2_noteWrite_39 (by decide) (fun e5 => ?_) (fun e5 => ?_)
        · have hM := it_n e5 hM
          exact W.vret hx hb hr (fun t ht hW => ⟨⟨_, rfl, pr1 hM, hPt ht hP⟩, hS.F ht⟩) hS.2.2 dX2_noteWrite_47
        · have hM := it_p e5 hM
          refine lv_aload_n hx hb dX2_noteWrite_42 rfl (lv_at hl 0 rfl) ?_
          refine lv_iload_n hx hb dX2_noteWrite_43 rfl (lv_at hl 1 rfl) ?_
          obtain ⟨c4, h3, hM⟩ := bd1_some sm_ne hM
          refine gCv (gV (As := [.int a1]) (rest := []) ⟨hx, hb, hml, hown, hts⟩ (kX2_enter l dC dI ad cA hap _ c a1 _ h3) (cwV 1 hts gX2_noteWrite_X2_enter rfl rfl rfl (by decide +kernel) ⟨Nat.le_of_ble_eq_true rfl, Nat.le_of_ble_eq_true rfl⟩) (kC_st _ _) hK hP (va_recv hK1 hP (ci := 2) (q0 := 2) rfl rfl) rfl hl.1 rfl (Nat.le_of_ble_eq_true rfl) dX2_noteWrite_44 ⟨Nat.zero_le _, Nat.zero_le _⟩) hS (fun H locs hP hS => ?_)
          exact W.vret hx hb hr (fun t ht hW => ⟨⟨_, rfl, pr1 hM, hPt ht hP⟩, hS.F ht⟩) hS.2.2 dX2_noteWrite_47
  · have hM := it_p e10 hM
    refine lv_aload_n hx hb dX2_noteWrite_8 rfl (lv_at hl 0 rfl) ?_
    refine gget (v := .ref (ad 13)) hx hb hts i2 hown hK1 hP 2 rfl rfl 4 (by decide) f19 rfl rfl dX2_noteWrite_9 ?_
    refine lv_iload_n hx hb dX2_noteWrite_12 rfl (lv_at hl 1 rfl) ?_
    refine lv_iload_n hx hb dX2_noteWrite_13 rfl (lv_at hl 2 rfl) ?_
    refine lv_iadd hx hb dX2_noteWrite_14 ?_
    refine lv_bipush (v := 64) hx hb dX2_noteWrite_15 (by decide) ?_
    refine lv_idiv hx hb dX2_noteWrite_17 (by decide) ?_
    refine lv_iconst (v := 1) hx hb dX2_noteWrite_18 (by decide) ?_
    obtain ⟨h9, c8, hc8, hM⟩ := stA_some sm_ne hM
    refine gast (w := wC ad cA) (c := c) (c1 := c8) hx hb hK1 hP (hD c) hS 13 8 rfl rfl h9 (by rw [hc8]; rfl) dX2_noteWrite_19 (fun H locs hP hS => ?_)
    refine lv_goto (tgt := 47) hx hb dX2_noteWrite_20 (by decide) ?_
    exact W.vret hx hb hr (fun t ht hW => ⟨⟨_, rfl, pr1 hM, hPt ht hP⟩, hS.F ht⟩) hS.2.2 dX2_noteWrite_47
set_option maxHeartbeats 4000000 in
set_option maxRecDepth 100000 in
theorem kX4_put (l : Launch) (dC : Nat → ClassId) (dI : Nat → Nat → Nat) (ad : Nat → Nat) (cA : Nat → ClassId) (hap : apart 17 ad) (sz : Nat) (c : HS) (a1 : Int32) (a2 : Int32) (a3 : Int32) (r0 : Int32) (c9 : HS) (hM : pX4_put c a1 a2 a3 = some (r0, c9)) : Met l yX4_put wsX4_put ({ frames := 3, cells := 0, slots := 0, locals := 64 }) (gP (dC, dI) (wC ad cA) (kC (dC, dI) cA) c sz [.ref (ad 0), .int a1, .int a2, .int a3]) (gQi (dC, dI) (wC ad cA) (fA 17 ad sz) r0 c9) 0 0 (fA 17 ad sz) := by
  refine Met.ofW (cc := cX4_put) (maxL := 4) (ret := (some .int)) (by decide) rfl ?_
  intro p e s m args below meth cd s₁ B hml hv
  obtain ⟨rfl, rfl, hP, hK⟩ := hv
  have hx := B.exec
  have hb := B.bytes
  have hr := B.returns
  have hts := atoms_spec (ws := wsX4_put) B.pre
  have hown : s.vm.findClass RX4 = some m.cls := findClass_of_methodNamed B.named
  have hlocks := B.notSynchronized
  have hK1 : va_K (dC, dI) vwCl (tC cA) s := hK.1
  have hD : ∀ c, va_D (fA 17 ad s.heap.size) (wC ad cA c) := fun c => dC_ok hap cA c _
  have hS : va_S (fA 17 ad s.heap.size) s.heap s.heap [] := va_S.rf
  have i4 : ∀ w ∈ u_ws RX4 TX4 7, w ∈ wsX4_put := by decide +kernel
  have i3 : ∀ w ∈ u_ws RX3 TX3 9, w ∈ wsX4_put := by decide +kernel
  have f12 := hts (.fieldLink RX4 12 "StickyHeap" "space" "LStickyHeap$Space;") (by decide +kernel)
  have f19 := hts (.fieldLink RX4 19 "StickyHeap" "memory" "LStickyHeap$Memory;") (by decide +kernel)
  have f91 := hts (.fieldLink RX4 91 "StickyHeap$Space" "words" "[I") (by decide +kernel)
  have hl := lv_entry [.ref (ad 0), .int a1, .int a2, .int a3] (n := 4) (Nat.le_of_ble_eq_true rfl)
  rw [lg_entry_eq]
  generalize (lg_sl [.ref (ad 0), .int a1, .int a2, .int a3] ++ List.replicate (4 - (lg_sl [.ref (ad 0), .int a1, .int a2, .int a3]).length) Slot.unset).toArray = ls at hl ⊢
  have hl : lv_has ls 4 [(0, .ref (ad 0)), (1, .int a1), (2, .int a2), (3, .int a3)] := hl
  have hP : va_P (dC, dI) vwCl (wC ad cA c) s.heap := hP
  unfold pX4_put at hM
  refine lv_aload_n hx hb dX4_put_0 rfl (lv_at hl 0 rfl) ?_
  refine gget (v := .ref (ad 1)) hx hb hts i4 hown hK1 hP 0 rfl rfl 0 (by decide) f12 rfl rfl dX4_put_1 ?_
  refine lv_iload_n hx hb dX4_put_4 rfl (lv_at hl 1 rfl) ?_
  obtain ⟨r2, h1, hM⟩ := bd1_some sm_ne hM
  refine gCi (gV (As := [.int a1]) (rest := []) ⟨hx, hb, hml, hown, hts⟩ (kX3_isThing l dC dI ad cA hap _ c a1 _ h1) (cwV 1 hts gX4_put_X3_isThing rfl rfl rfl (by decide +kernel) ⟨Nat.le_of_ble_eq_true rfl, Nat.le_of_ble_eq_true rfl⟩) (kC_st _ _) hK hP (va_recv hK1 hP (ci := 3) (q0 := 1) rfl rfl) rfl hl.1 rfl (Nat.le_of_ble_eq_true rfl) dX4_put_5 ⟨Nat.zero_le _, Nat.zero_le _⟩) hS (fun H locs hP hS => ?_)
  refine lv_if_eq (tgt := 19) hx hb dX4_put_8 (by decide) (fun e18 => ?_) (fun e18 => ?_)
  · have hM := it_p e18 hM
    refine lv_bipush (v := (-101)) hx hb dX4_put_19 (by decide) ?_
    exact W.iret hx hb hr (fun t ht hW => ⟨⟨_, _, rfl, pr2 hM, hPt ht hP⟩, hS.F ht⟩) hS.2.2 dX4_put_21
  · have hM := it_n e18 hM
    refine lv_aload_n hx hb dX4_put_11 rfl (lv_at hl 0 rfl) ?_
    refine lv_iload_n hx hb dX4_put_12 rfl (lv_at hl 3 rfl) ?_
    obtain ⟨r4, h3, hM⟩ := bd1_some sm_ne hM
    refine gCi (gV (As := [.int a3]) (rest := []) ⟨hx, hb, hml, hown, hts⟩ (kX4_isThingOrNone l dC dI ad cA hap _ c a3 _ h3) (cwV 1 hts gX4_put_X4_isThingOrNone rfl rfl rfl (by decide +kernel) ⟨Nat.le_of_ble_eq_true rfl, Nat.le_of_ble_eq_true rfl⟩) (kC_st _ _) hK hP (va_recv hK1 hP (ci := 4) (q0 := 0) rfl rfl) rfl hl.1 rfl (Nat.le_of_ble_eq_true rfl) dX4_put_13 ⟨Nat.zero_le _, Nat.zero_le _⟩) hS (fun H locs hP hS => ?_)
    refine lv_if_ne (tgt := 22) hx hb dX4_put_16 (by decide) (fun e17 => ?_) (fun e17 => ?_)
    · have hM := it_n e17 hM
      refine lv_aload_n hx hb dX4_put_22 rfl (lv_at hl 0 rfl) ?_
      refine gget (v := .ref (ad 1)) hx hb hts i4 hown hK1 hP 0 rfl rfl 0 (by decide) f12 rfl rfl dX4_put_23 ?_
      refine lv_iload_n hx hb dX4_put_26 rfl (lv_at hl 1 rfl) ?_
      refine lv_iload_n hx hb dX4_put_27 rfl (lv_at hl 2 rfl) ?_
      obtain ⟨r6, h5, hM⟩ := bd1_some sm_ne hM
      refine gCi (gV (As := [.int a1, .int a2]) (rest := []) ⟨hx, hb, hml, hown, hts⟩ (kX3_hasReference l dC dI ad cA hap _ c a1 a2 _ h5) (cwV 2 hts gX4_put_X3_hasReference rfl rfl rfl (by decide +kernel) ⟨Nat.le_of_ble_eq_true rfl, Nat.le_of_ble_eq_true rfl⟩) (kC_st _ _) hK hP (va_recv hK1 hP (ci := 3) (q0 := 1) rfl rfl) rfl hl.1 rfl (Nat.le_of_ble_eq_true rfl) dX4_put_28 ⟨Nat.zero_le _, Nat.zero_le _⟩) hS (fun H locs hP hS => ?_)
      refine lv_if_ne (tgt := 37) hx hb dX4_put_31 (by decide) (fun e16 => ?_) (fun e16 => ?_)
      · have hM := it_n e16 hM
        refine lv_aload_n hx hb dX4_put_37 rfl (lv_at hl 0 rfl) ?_
        refine gget (v := .ref (ad 1)) hx hb hts i4 hown hK1 hP 0 rfl rfl 0 (by decide) f12 rfl rfl dX4_put_38 ?_
        refine gget (v := .ref (ad 8)) hx hb hts i3 hown hK1 hP 1 rfl rfl 5 (by decide) f91 rfl rfl dX4_put_41 ?_
        refine lv_iload_n hx hb dX4_put_44 rfl (lv_at hl 1 rfl) ?_
        refine lv_iload_n hx hb dX4_put_45 rfl (lv_at hl 2 rfl) ?_
        refine lv_iadd hx hb dX4_put_46 ?_
        refine lv_iload_n hx hb dX4_put_47 rfl (lv_at hl 3 rfl) ?_
        obtain ⟨h8, c7, hc7, hM⟩ := stA_some sm_ne hM
        refine gast (w := wC ad cA) (c := c) (c1 := c7) hx hb hK1 hP (hD c) hS 8 3 rfl rfl h8 (by rw [hc7]; rfl) dX4_put_48 (fun H locs hP hS => ?_)
        refine lv_aload_n hx hb dX4_put_49 rfl (lv_at hl 0 rfl) ?_
        refine gget (v := .ref (ad 2)) hx hb hts i4 hown hK1 hP 0 rfl rfl 1 (by decide) f19 rfl rfl dX4_put_50 ?_
        refine lv_iload_n hx hb dX4_put_53 rfl (lv_at hl 1 rfl) ?_
        refine lv_iload_n hx hb dX4_put_54 rfl (lv_at hl 2 rfl) ?_
        refine lv_aload_n hx hb dX4_put_55 rfl (lv_at hl 0 rfl) ?_
        refine gget (v := .ref (ad 1)) hx hb hts i4 hown hK1 hP 0 rfl rfl 0 (by decide) f12 rfl rfl dX4_put_56 ?_
        refine lv_iload_n hx hb dX4_put_59 rfl (lv_at hl 1 rfl) ?_
        obtain ⟨r10, h9, hM⟩ := bd1_some sm_ne hM
        refine gCi (gV (As := [.int a1]) (rest := [.int a2, .int a1, .ref (ad 2)]) ⟨hx, hb, hml, hown, hts⟩ (kX3_ageOf l dC dI ad cA hap _ c7 a1 _ h9) (cwV 1 hts gX4_put_X3_ageOf rfl rfl rfl (by decide +kernel) ⟨Nat.le_of_ble_eq_true rfl, Nat.le_of_ble_eq_true rfl⟩) (kC_st _ _) hK hP (va_recv hK1 hP (ci := 3) (q0 := 1) rfl rfl) rfl hl.1 rfl (Nat.le_of_ble_eq_true rfl) dX4_put_60 ⟨Nat.zero_le _, Nat.zero_le _⟩) hS (fun H locs hP hS => ?_)
        refine lv_iconst (v := 3) hx hb dX4_put_63 (by decide) ?_
        refine lv_icmp_ne (tgt := 71) hx hb dX4_put_64 (by decide) (fun e15 => ?_) (fun e15 => ?_)
        · have hM := it_n e15 hM
          refine lv_iconst (v := 0) hx hb dX4_put_71 (by decide) ?_
          obtain ⟨c12, h11, hM⟩ := bd1_some sm_ne hM
          refine gCv (gV (As := [.int a1, .int a2, .int 0]) (rest := []) ⟨hx, hb, hml, hown, hts⟩ (kX2_noteWrite l dC dI ad cA hap _ c7 a1 a2 0 _ h11) (cwV 3 hts gX4_put_X2_noteWrite rfl rfl rfl (by decide +kernel) ⟨Nat.le_of_ble_eq_true rfl, Nat.le_of_ble_eq_true rfl⟩) (kC_st _ _) hK hP (va_recv hK1 hP (ci := 2) (q0 := 2) rfl rfl) rfl hl.1 rfl (Nat.le_of_ble_eq_true rfl) dX4_put_72 ⟨Nat.zero_le _, Nat.zero_le _⟩) hS (fun H locs hP hS => ?_)
          refine lv_iconst (v := 1) hx hb dX4_put_75 (by decide) ?_
          exact W.iret hx hb hr (fun t ht hW => ⟨⟨_, _, rfl, pr2 hM, hPt ht hP⟩, hS.F ht⟩) hS.2.2 dX4_put_76
        · have hM := it_p e15 hM
          refine lv_iconst (v := 1) hx hb dX4_put_67 (by decide) ?_
          refine lv_goto (tgt := 72) hx hb dX4_put_68 (by decide) ?_
          obtain ⟨c14, h13, hM⟩ := bd1_some sm_ne hM
          refine gCv (gV (As := [.int a1, .int a2, .int 1]) (rest := []) ⟨hx, hb, hml, hown, hts⟩ (kX2_noteWrite l dC dI ad cA hap _ c7 a1 a2 1 _ h13) (cwV 3 hts gX4_put_X2_noteWrite rfl rfl rfl (by decide +kernel) ⟨Nat.le_of_ble_eq_true rfl, Nat.le_of_ble_eq_true rfl⟩) (kC_st _ _) hK hP (va_recv hK1 hP (ci := 2) (q0 := 2) rfl rfl) rfl hl.1 rfl (Nat.le_of_ble_eq_true rfl) dX4_put_72 ⟨Nat.zero_le _, Nat.zero_le _⟩) hS (fun H locs hP hS => ?_)
          refine lv_iconst (v := 1) hx hb dX4_put_75 (by decide) ?_
          exact W.iret hx hb hr (fun t ht hW => ⟨⟨_, _, rfl, pr2 hM, hPt ht hP⟩, hS.F ht⟩) hS.2.2 dX4_put_76
      · have hM := it_p e16 hM
        refine lv_bipush (v := (-12)) hx hb dX4_put_34 (by decide) ?_
        exact W.iret hx hb hr (fun t ht hW => ⟨⟨_, _, rfl, pr2 hM, hPt ht hP⟩, hS.F ht⟩) hS.2.2 dX4_put_36
    · have hM := it_p e17 hM
      refine lv_bipush (v := (-101)) hx hb dX4_put_19 (by decide) ?_
      exact W.iret hx hb hr (fun t ht hW => ⟨⟨_, _, rfl, pr2 hM, hPt ht hP⟩, hS.F ht⟩) hS.2.2 dX4_put_21
set_option maxHeartbeats 4000000 in
set_option maxRecDepth 100000 in
theorem kX4_link (l : Launch) (dC : Nat → ClassId) (dI : Nat → Nat → Nat) (ad : Nat → Nat) (cA : Nat → ClassId) (hap : apart 17 ad) (sz : Nat) (c : HS) (a1 : Int32) (a2 : Int32) (r0 : Int32) (hM : pX4_link c a1 a2 = some r0) : Met l yX4_link wsX4_link ({ frames := 3, cells := 0, slots := 0, locals := 64 }) (gP (dC, dI) (wC ad cA) (kC (dC, dI) cA) c sz [.ref (ad 0), .int a1, .int a2]) (gQi (dC, dI) (wC ad cA) (fA 17 ad sz) r0 c) 0 0 (fA 17 ad sz) := by
  refine Met.ofW (cc := cX4_link) (maxL := 3) (ret := (some .int)) (by decide) rfl ?_
  intro p e s m args below meth cd s₁ B hml hv
  obtain ⟨rfl, rfl, hP, hK⟩ := hv
  have hx := B.exec
  have hb := B.bytes
  have hr := B.returns
  have hts := atoms_spec (ws := wsX4_link) B.pre
  have hown : s.vm.findClass RX4 = some m.cls := findClass_of_methodNamed B.named
  have hlocks := B.notSynchronized
  have hK1 : va_K (dC, dI) vwCl (tC cA) s := hK.1
  have hD : ∀ c, va_D (fA 17 ad s.heap.size) (wC ad cA c) := fun c => dC_ok hap cA c _
  have hS : va_S (fA 17 ad s.heap.size) s.heap s.heap [] := va_S.rf
  have i4 : ∀ w ∈ u_ws RX4 TX4 7, w ∈ wsX4_link := by decide +kernel
  have i3 : ∀ w ∈ u_ws RX3 TX3 9, w ∈ wsX4_link := by decide +kernel
  have f12 := hts (.fieldLink RX4 12 "StickyHeap" "space" "LStickyHeap$Space;") (by decide +kernel)
  have f91 := hts (.fieldLink RX4 91 "StickyHeap$Space" "words" "[I") (by decide +kernel)
  have hl := lv_entry [.ref (ad 0), .int a1, .int a2] (n := 3) (Nat.le_of_ble_eq_true rfl)
  rw [lg_entry_eq]
  generalize (lg_sl [.ref (ad 0), .int a1, .int a2] ++ List.replicate (3 - (lg_sl [.ref (ad 0), .int a1, .int a2]).length) Slot.unset).toArray = ls at hl ⊢
  have hl : lv_has ls 3 [(0, .ref (ad 0)), (1, .int a1), (2, .int a2)] := hl
  have hP : va_P (dC, dI) vwCl (wC ad cA c) s.heap := hP
  unfold pX4_link at hM
  refine lv_aload_n hx hb dX4_link_0 rfl (lv_at hl 0 rfl) ?_
  refine gget (v := .ref (ad 1)) hx hb hts i4 hown hK1 hP 0 rfl rfl 0 (by decide) f12 rfl rfl dX4_link_1 ?_
  refine lv_iload_n hx hb dX4_link_4 rfl (lv_at hl 1 rfl) ?_
  obtain ⟨r2, h1, hM⟩ := bd1_some sm_ne hM
  refine gCi (gV (As := [.int a1]) (rest := []) ⟨hx, hb, hml, hown, hts⟩ (kX3_isThing l dC dI ad cA hap _ c a1 _ h1) (cwV 1 hts gX4_link_X3_isThing rfl rfl rfl (by decide +kernel) ⟨Nat.le_of_ble_eq_true rfl, Nat.le_of_ble_eq_true rfl⟩) (kC_st _ _) hK hP (va_recv hK1 hP (ci := 3) (q0 := 1) rfl rfl) rfl hl.1 rfl (Nat.le_of_ble_eq_true rfl) dX4_link_5 ⟨Nat.zero_le _, Nat.zero_le _⟩) hS (fun H locs hP hS => ?_)
  refine lv_if_ne (tgt := 14) hx hb dX4_link_8 (by decide) (fun e8 => ?_) (fun e8 => ?_)
  · have hM := it_n e8 hM
    refine lv_aload_n hx hb dX4_link_14 rfl (lv_at hl 0 rfl) ?_
    refine gget (v := .ref (ad 1)) hx hb hts i4 hown hK1 hP 0 rfl rfl 0 (by decide) f12 rfl rfl dX4_link_15 ?_
    refine lv_iload_n hx hb dX4_link_18 rfl (lv_at hl 1 rfl) ?_
    refine lv_iload_n hx hb dX4_link_19 rfl (lv_at hl 2 rfl) ?_
    obtain ⟨r4, h3, hM⟩ := bd1_some sm_ne hM
    refine gCi (gV (As := [.int a1, .int a2]) (rest := []) ⟨hx, hb, hml, hown, hts⟩ (kX3_hasReference l dC dI ad cA hap _ c a1 a2 _ h3) (cwV 2 hts gX4_link_X3_hasReference rfl rfl rfl (by decide +kernel) ⟨Nat.le_of_ble_eq_true rfl, Nat.le_of_ble_eq_true rfl⟩) (kC_st _ _) hK hP (va_recv hK1 hP (ci := 3) (q0 := 1) rfl rfl) rfl hl.1 rfl (Nat.le_of_ble_eq_true rfl) dX4_link_20 ⟨Nat.zero_le _, Nat.zero_le _⟩) hS (fun H locs hP hS => ?_)
    refine lv_if_ne (tgt := 29) hx hb dX4_link_23 (by decide) (fun e7 => ?_) (fun e7 => ?_)
    · have hM := it_n e7 hM
      refine lv_aload_n hx hb dX4_link_29 rfl (lv_at hl 0 rfl) ?_
      refine gget (v := .ref (ad 1)) hx hb hts i4 hown hK1 hP 0 rfl rfl 0 (by decide) f12 rfl rfl dX4_link_30 ?_
      refine gget (v := .ref (ad 8)) hx hb hts i3 hown hK1 hP 1 rfl rfl 5 (by decide) f91 rfl rfl dX4_link_33 ?_
      refine lv_iload_n hx hb dX4_link_36 rfl (lv_at hl 1 rfl) ?_
      refine lv_iload_n hx hb dX4_link_37 rfl (lv_at hl 2 rfl) ?_
      refine lv_iadd hx hb dX4_link_38 ?_
      obtain ⟨h6, x5, hx5, hM⟩ := ldA_some sm_ne hM
      refine gald hx hb hK1 hP 8 3 rfl rfl h6 hx5 dX4_link_39 ?_
      exact W.iret hx hb hr (fun t ht hW => ⟨⟨_, _, rfl, ⟨pr1 hM, rfl⟩, hPt ht hP⟩, hS.F ht⟩) hS.2.2 dX4_link_40
    · have hM := it_p e7 hM
      refine lv_bipush (v := (-12)) hx hb dX4_link_26 (by decide) ?_
      exact W.iret hx hb hr (fun t ht hW => ⟨⟨_, _, rfl, ⟨pr1 hM, rfl⟩, hPt ht hP⟩, hS.F ht⟩) hS.2.2 dX4_link_28
  · have hM := it_p e8 hM
    refine lv_bipush (v := (-101)) hx hb dX4_link_11 (by decide) ?_
    exact W.iret hx hb hr (fun t ht hW => ⟨⟨_, _, rfl, ⟨pr1 hM, rfl⟩, hPt ht hP⟩, hS.F ht⟩) hS.2.2 dX4_link_13
set_option maxHeartbeats 4000000 in
set_option maxRecDepth 100000 in
theorem kX3_numbersOf (l : Launch) (dC : Nat → ClassId) (dI : Nat → Nat → Nat) (ad : Nat → Nat) (cA : Nat → ClassId) (hap : apart 17 ad) (sz : Nat) (c : HS) (a1 : Int32) (r0 : Int32) (hM : pX3_numbersOf c a1 = some r0) : Met l yX3_numbersOf wsX3_numbersOf ({ frames := 1, cells := 0, slots := 0, locals := 21 }) (gP (dC, dI) (wC ad cA) (kC (dC, dI) cA) c sz [.ref (ad 1), .int a1]) (gQi (dC, dI) (wC ad cA) (fA 17 ad sz) r0 c) 0 0 (fA 17 ad sz) := by
  refine Met.ofW (cc := cX3_numbersOf) (maxL := 2) (ret := (some .int)) (by decide) rfl ?_
  intro p e s m args below meth cd s₁ B hml hv
  obtain ⟨rfl, rfl, hP, hK⟩ := hv
  have hx := B.exec
  have hb := B.bytes
  have hr := B.returns
  have hts := atoms_spec (ws := wsX3_numbersOf) B.pre
  have hown : s.vm.findClass RX3 = some m.cls := findClass_of_methodNamed B.named
  have hlocks := B.notSynchronized
  have hK1 : va_K (dC, dI) vwCl (tC cA) s := hK.1
  have hD : ∀ c, va_D (fA 17 ad s.heap.size) (wC ad cA c) := fun c => dC_ok hap cA c _
  have hS : va_S (fA 17 ad s.heap.size) s.heap s.heap [] := va_S.rf
  have i3 : ∀ w ∈ u_ws RX3 TX3 9, w ∈ wsX3_numbersOf := by decide +kernel
  have f27 := hts (.fieldLink RX3 27 "StickyHeap$Space" "numbers" "[I") (by decide +kernel)
  have hl := lv_entry [.ref (ad 1), .int a1] (n := 2) (Nat.le_of_ble_eq_true rfl)
  rw [lg_entry_eq]
  generalize (lg_sl [.ref (ad 1), .int a1] ++ List.replicate (2 - (lg_sl [.ref (ad 1), .int a1]).length) Slot.unset).toArray = ls at hl ⊢
  have hl : lv_has ls 2 [(0, .ref (ad 1)), (1, .int a1)] := hl
  have hP : va_P (dC, dI) vwCl (wC ad cA c) s.heap := hP
  unfold pX3_numbersOf at hM
  refine lv_aload_n hx hb dX3_numbersOf_0 rfl (lv_at hl 0 rfl) ?_
  refine lv_iload_n hx hb dX3_numbersOf_1 rfl (lv_at hl 1 rfl) ?_
  obtain ⟨r2, h1, hM⟩ := bd1_some sm_ne hM
  refine gCi (gV (As := [.int a1]) (rest := []) ⟨hx, hb, hml, hown, hts⟩ (kX3_isThing l dC dI ad cA hap _ c a1 _ h1) (cwV 1 hts gX3_numbersOf_X3_isThing rfl rfl rfl (by decide +kernel) ⟨Nat.le_of_ble_eq_true rfl, Nat.le_of_ble_eq_true rfl⟩) (kC_st _ _) hK hP (va_recv hK1 hP (ci := 3) (q0 := 1) rfl rfl) rfl hl.1 rfl (Nat.le_of_ble_eq_true rfl) dX3_numbersOf_2 ⟨Nat.zero_le _, Nat.zero_le _⟩) hS (fun H locs hP hS => ?_)
  refine lv_if_eq (tgt := 19) hx hb dX3_numbersOf_5 (by decide) (fun e5 => ?_) (fun e5 => ?_)
  · have hM := it_p e5 hM
    refine lv_iconst (v := 0) hx hb dX3_numbersOf_19 (by decide) ?_
    exact W.iret hx hb hr (fun t ht hW => ⟨⟨_, _, rfl, ⟨pr1 hM, rfl⟩, hPt ht hP⟩, hS.F ht⟩) hS.2.2 dX3_numbersOf_20
  · have hM := it_n e5 hM
    refine lv_aload_n hx hb dX3_numbersOf_8 rfl (lv_at hl 0 rfl) ?_
    refine gget (v := .ref (ad 10)) hx hb hts i3 hown hK1 hP 1 rfl rfl 7 (by decide) f27 rfl rfl dX3_numbersOf_9 ?_
    refine lv_iload_n hx hb dX3_numbersOf_12 rfl (lv_at hl 1 rfl) ?_
    refine lv_iconst (v := 2) hx hb dX3_numbersOf_13 (by decide) ?_
    refine lv_idiv hx hb dX3_numbersOf_14 (by decide) ?_
    obtain ⟨h4, x3, hx3, hM⟩ := ldA_some sm_ne hM
    refine gald hx hb hK1 hP 10 5 rfl rfl h4 hx3 dX3_numbersOf_15 ?_
    refine lv_goto (tgt := 20) hx hb dX3_numbersOf_16 (by decide) ?_
    exact W.iret hx hb hr (fun t ht hW => ⟨⟨_, _, rfl, ⟨pr1 hM, rfl⟩, hPt ht hP⟩, hS.F ht⟩) hS.2.2 dX3_numbersOf_20
set_option maxHeartbeats 4000000 in
set_option maxRecDepth 100000 in
theorem kX3_sizeOf (l : Launch) (dC : Nat → ClassId) (dI : Nat → Nat → Nat) (ad : Nat → Nat) (cA : Nat → ClassId) (hap : apart 17 ad) (sz : Nat) (c : HS) (a1 : Int32) (r0 : Int32) (hM : pX3_sizeOf c a1 = some r0) : Met l yX3_sizeOf wsX3_sizeOf ({ frames := 2, cells := 0, slots := 0, locals := 42 }) (gP (dC, dI) (wC ad cA) (kC (dC, dI) cA) c sz [.ref (ad 1), .int a1]) (gQi (dC, dI) (wC ad cA) (fA 17 ad sz) r0 c) 0 0 (fA 17 ad sz) := by
  refine Met.ofW (cc := cX3_sizeOf) (maxL := 2) (ret := (some .int)) (by decide) rfl ?_
  intro p e s m args below meth cd s₁ B hml hv
  obtain ⟨rfl, rfl, hP, hK⟩ := hv
  have hx := B.exec
  have hb := B.bytes
  have hr := B.returns
  have hts := atoms_spec (ws := wsX3_sizeOf) B.pre
  have hown : s.vm.findClass RX3 = some m.cls := findClass_of_methodNamed B.named
  have hlocks := B.notSynchronized
  have hK1 : va_K (dC, dI) vwCl (tC cA) s := hK.1
  have hD : ∀ c, va_D (fA 17 ad s.heap.size) (wC ad cA c) := fun c => dC_ok hap cA c _
  have hS : va_S (fA 17 ad s.heap.size) s.heap s.heap [] := va_S.rf
  have hl := lv_entry [.ref (ad 1), .int a1] (n := 2) (Nat.le_of_ble_eq_true rfl)
  rw [lg_entry_eq]
  generalize (lg_sl [.ref (ad 1), .int a1] ++ List.replicate (2 - (lg_sl [.ref (ad 1), .int a1]).length) Slot.unset).toArray = ls at hl ⊢
  have hl : lv_has ls 2 [(0, .ref (ad 1)), (1, .int a1)] := hl
  have hP : va_P (dC, dI) vwCl (wC ad cA c) s.heap := hP
  unfold pX3_sizeOf at hM
  refine lv_aload_n hx hb dX3_sizeOf_0 rfl (lv_at hl 0 rfl) ?_
  refine lv_iload_n hx hb dX3_sizeOf_1 rfl (lv_at hl 1 rfl) ?_
  obtain ⟨r2, h1, hM⟩ := bd1_some sm_ne hM
  refine gCi (gV (As := [.int a1]) (rest := []) ⟨hx, hb, hml, hown, hts⟩ (kX3_referencesOf l dC dI ad cA hap _ c a1 _ h1) (cwV 1 hts gX3_sizeOf_X3_referencesOf rfl rfl rfl (by decide +kernel) ⟨Nat.le_of_ble_eq_true rfl, Nat.le_of_ble_eq_true rfl⟩) (kC_st _ _) hK hP (va_recv hK1 hP (ci := 3) (q0 := 1) rfl rfl) rfl hl.1 rfl (Nat.le_of_ble_eq_true rfl) dX3_sizeOf_2 ⟨Nat.zero_le _, Nat.zero_le _⟩) hS (fun H locs hP hS => ?_)
  refine lv_aload_n hx hb dX3_sizeOf_5 rfl (lv_at hl 0 rfl) ?_
  refine lv_iload_n hx hb dX3_sizeOf_6 rfl (lv_at hl 1 rfl) ?_
  obtain ⟨r4, h3, hM⟩ := bd1_some sm_ne hM
  refine gCi (gV (As := [.int a1]) (rest := [.int r2]) ⟨hx, hb, hml, hown, hts⟩ (kX3_numbersOf l dC dI ad cA hap _ c a1 _ h3) (cwV 1 hts gX3_sizeOf_X3_numbersOf rfl rfl rfl (by decide +kernel) ⟨Nat.le_of_ble_eq_true rfl, Nat.le_of_ble_eq_true rfl⟩) (kC_st _ _) hK hP (va_recv hK1 hP (ci := 3) (q0 := 1) rfl rfl) rfl hl.1 rfl (Nat.le_of_ble_eq_true rfl) dX3_sizeOf_7 ⟨Nat.zero_le _, Nat.zero_le _⟩) hS (fun H locs hP hS => ?_)
  refine lv_iadd hx hb dX3_sizeOf_10 ?_
  exact W.iret hx hb hr (fun t ht hW => ⟨⟨_, _, rfl, ⟨pr1 hM, rfl⟩, hPt ht hP⟩, hS.F ht⟩) hS.2.2 dX3_sizeOf_11
set_option maxHeartbeats 4000000 in
set_option maxRecDepth 100000 in
theorem kX3_hasNumber (l : Launch) (dC : Nat → ClassId) (dI : Nat → Nat → Nat) (ad : Nat → Nat) (cA : Nat → ClassId) (hap : apart 17 ad) (sz : Nat) (c : HS) (a1 : Int32) (a2 : Int32) (r0 : Int32) (hM : pX3_hasNumber c a1 a2 = some r0) : Met l yX3_hasNumber wsX3_hasNumber ({ frames := 3, cells := 0, slots := 0, locals := 63 }) (gP (dC, dI) (wC ad cA) (kC (dC, dI) cA) c sz [.ref (ad 1), .int a1, .int a2]) (gQi (dC, dI) (wC ad cA) (fA 17 ad sz) r0 c) 0 0 (fA 17 ad sz) := by
  refine Met.ofW (cc := cX3_hasNumber) (maxL := 3) (ret := (some .boolean)) (by decide) rfl ?_
  intro p e s m args below meth cd s₁ B hml hv
  obtain ⟨rfl, rfl, hP, hK⟩ := hv
  have hx := B.exec
  have hb := B.bytes
  have hr := B.returns
  have hts := atoms_spec (ws := wsX3_hasNumber) B.pre
  have hown : s.vm.findClass RX3 = some m.cls := findClass_of_methodNamed B.named
  have hlocks := B.notSynchronized
  have hK1 : va_K (dC, dI) vwCl (tC cA) s := hK.1
  have hD : ∀ c, va_D (fA 17 ad s.heap.size) (wC ad cA c) := fun c => dC_ok hap cA c _
  have hS : va_S (fA 17 ad s.heap.size) s.heap s.heap [] := va_S.rf
  have hl := lv_entry [.ref (ad 1), .int a1, .int a2] (n := 3) (Nat.le_of_ble_eq_true rfl)
  rw [lg_entry_eq]
  generalize (lg_sl [.ref (ad 1), .int a1, .int a2] ++ List.replicate (3 - (lg_sl [.ref (ad 1), .int a1, .int a2]).length) Slot.unset).toArray = ls at hl ⊢
  have hl : lv_has ls 3 [(0, .ref (ad 1)), (1, .int a1), (2, .int a2)] := hl
  have hP : va_P (dC, dI) vwCl (wC ad cA c) s.heap := hP
  unfold pX3_hasNumber at hM
  refine lv_iload_n hx hb dX3_hasNumber_0 rfl (lv_at hl 2 rfl) ?_
  refine lv_aload_n hx hb dX3_hasNumber_1 rfl (lv_at hl 0 rfl) ?_
  refine lv_iload_n hx hb dX3_hasNumber_2 rfl (lv_at hl 1 rfl) ?_
  obtain ⟨r2, h1, hM⟩ := bd1_some sm_ne hM
  refine gCi (gV (As := [.int a1]) (rest := [.int a2]) ⟨hx, hb, hml, hown, hts⟩ (kX3_referencesOf l dC dI ad cA hap _ c a1 _ h1) (cwV 1 hts gX3_hasNumber_X3_referencesOf rfl rfl rfl (by decide +kernel) ⟨Nat.le_of_ble_eq_true rfl, Nat.le_of_ble_eq_true rfl⟩) (kC_st _ _) hK hP (va_recv hK1 hP (ci := 3) (q0 := 1) rfl rfl) rfl hl.1 rfl (Nat.le_of_ble_eq_true rfl) dX3_hasNumber_3 ⟨Nat.zero_le _, Nat.zero_le _⟩) hS (fun H locs hP hS => ?_)
  refine lv_icmp_lt (tgt := 22) hx hb dX3_hasNumber_6 (by decide) (fun e6 => ?_) (fun e6 => ?_)
  · have hM := it_p e6 hM
    refine lv_iconst (v := 0) hx hb dX3_hasNumber_22 (by decide) ?_
    exact W.zret hx hb hr rfl (fun t ht hW => ⟨⟨_, _, rfl, ⟨pr1 hM, rfl⟩, hPt ht hP⟩, hS.F ht⟩) hS.2.2 dX3_hasNumber_23
  · have hM := it_n e6 hM
    refine lv_iload_n hx hb dX3_hasNumber_9 rfl (lv_at hl 2 rfl) ?_
    refine lv_aload_n hx hb dX3_hasNumber_10 rfl (lv_at hl 0 rfl) ?_
    refine lv_iload_n hx hb dX3_hasNumber_11 rfl (lv_at hl 1 rfl) ?_
    obtain ⟨r4, h3, hM⟩ := bd1_some sm_ne hM
    refine gCi (gV (As := [.int a1]) (rest := [.int a2]) ⟨hx, hb, hml, hown, hts⟩ (kX3_sizeOf l dC dI ad cA hap _ c a1 _ h3) (cwV 1 hts gX3_hasNumber_X3_sizeOf rfl rfl rfl (by decide +kernel) ⟨Nat.le_of_ble_eq_true rfl, Nat.le_of_ble_eq_true rfl⟩) (kC_st _ _) hK hP (va_recv hK1 hP (ci := 3) (q0 := 1) rfl rfl) rfl hl.1 rfl (Nat.le_of_ble_eq_true rfl) dX3_hasNumber_12 ⟨Nat.zero_le _, Nat.zero_le _⟩) hS (fun H locs hP hS => ?_)
    refine lv_icmp_ge (tgt := 22) hx hb dX3_hasNumber_15 (by decide) (fun e5 => ?_) (fun e5 => ?_)
    · have hM := it_p e5 hM
      refine lv_iconst (v := 0) hx hb dX3_hasNumber_22 (by decide) ?_
      exact W.zret hx hb hr rfl (fun t ht hW => ⟨⟨_, _, rfl, ⟨pr1 hM, rfl⟩, hPt ht hP⟩, hS.F ht⟩) hS.2.2 dX3_hasNumber_23
    · have hM := it_n e5 hM
      refine lv_iconst (v := 1) hx hb dX3_hasNumber_18 (by decide) ?_
      refine lv_goto (tgt := 23) hx hb dX3_hasNumber_19 (by decide) ?_
      exact W.zret hx hb hr rfl (fun t ht hW => ⟨⟨_, _, rfl, ⟨pr1 hM, rfl⟩, hPt ht hP⟩, hS.F ht⟩) hS.2.2 dX3_hasNumber_23
set_option maxHeartbeats 4000000 in
set_option maxRecDepth 100000 in
theorem kX4_set (l : Launch) (dC : Nat → ClassId) (dI : Nat → Nat → Nat) (ad : Nat → Nat) (cA : Nat → ClassId) (hap : apart 17 ad) (sz : Nat) (c : HS) (a1 : Int32) (a2 : Int32) (a3 : Int32) (r0 : Int32) (c9 : HS) (hM : pX4_set c a1 a2 a3 = some (r0, c9)) : Met l yX4_set wsX4_set ({ frames := 4, cells := 0, slots := 0, locals := 85 }) (gP (dC, dI) (wC ad cA) (kC (dC, dI) cA) c sz [.ref (ad 0), .int a1, .int a2, .int a3]) (gQi (dC, dI) (wC ad cA) (fA 17 ad sz) r0 c9) 0 0 (fA 17 ad sz) := by
  refine Met.ofW (cc := cX4_set) (maxL := 4) (ret := (some .int)) (by decide) rfl ?_
  intro p e s m args below meth cd s₁ B hml hv
  obtain ⟨rfl, rfl, hP, hK⟩ := hv
  have hx := B.exec
  have hb := B.bytes
  have hr := B.returns
  have hts := atoms_spec (ws := wsX4_set) B.pre
  have hown : s.vm.findClass RX4 = some m.cls := findClass_of_methodNamed B.named
  have hlocks := B.notSynchronized
  have hK1 : va_K (dC, dI) vwCl (tC cA) s := hK.1
  have hD : ∀ c, va_D (fA 17 ad s.heap.size) (wC ad cA c) := fun c => dC_ok hap cA c _
  have hS : va_S (fA 17 ad s.heap.size) s.heap s.heap [] := va_S.rf
  have i4 : ∀ w ∈ u_ws RX4 TX4 7, w ∈ wsX4_set := by decide +kernel
  have i3 : ∀ w ∈ u_ws RX3 TX3 9, w ∈ wsX4_set := by decide +kernel
  have f12 := hts (.fieldLink RX4 12 "StickyHeap" "space" "LStickyHeap$Space;") (by decide +kernel)
  have f91 := hts (.fieldLink RX4 91 "StickyHeap$Space" "words" "[I") (by decide +kernel)
  have hl := lv_entry [.ref (ad 0), .int a1, .int a2, .int a3] (n := 4) (Nat.le_of_ble_eq_true rfl)
  rw [lg_entry_eq]
  generalize (lg_sl [.ref (ad 0), .int a1, .int a2, .int a3] ++ List.replicate (4 - (lg_sl [.ref (ad 0), .int a1, .int a2, .int a3]).length) Slot.unset).toArray = ls at hl ⊢
  have hl : lv_has ls 4 [(0, .ref (ad 0)), (1, .int a1), (2, .int a2), (3, .int a3)] := hl
  have hP : va_P (dC, dI) vwCl (wC ad cA c) s.heap := hP
  unfold pX4_set at hM
  refine lv_aload_n hx hb dX4_set_0 rfl (lv_at hl 0 rfl) ?_
  refine gget (v := .ref (ad 1)) hx hb hts i4 hown hK1 hP 0 rfl rfl 0 (by decide) f12 rfl rfl dX4_set_1 ?_
  refine lv_iload_n hx hb dX4_set_4 rfl (lv_at hl 1 rfl) ?_
  obtain ⟨r2, h1, hM⟩ := bd1_some sm_ne hM
  refine gCi (gV (As := [.int a1]) (rest := []) ⟨hx, hb, hml, hown, hts⟩ (kX3_isThing l dC dI ad cA hap _ c a1 _ h1) (cwV 1 hts gX4_set_X3_isThing rfl rfl rfl (by decide +kernel) ⟨Nat.le_of_ble_eq_true rfl, Nat.le_of_ble_eq_true rfl⟩) (kC_st _ _) hK hP (va_recv hK1 hP (ci := 3) (q0 := 1) rfl rfl) rfl hl.1 rfl (Nat.le_of_ble_eq_true rfl) dX4_set_5 ⟨Nat.zero_le _, Nat.zero_le _⟩) hS (fun H locs hP hS => ?_)
  refine lv_if_ne (tgt := 14) hx hb dX4_set_8 (by decide) (fun e8 => ?_) (fun e8 => ?_)
  · have hM := it_n e8 hM
    refine lv_aload_n hx hb dX4_set_14 rfl (lv_at hl 0 rfl) ?_
    refine gget (v := .ref (ad 1)) hx hb hts i4 hown hK1 hP 0 rfl rfl 0 (by decide) f12 rfl rfl dX4_set_15 ?_
    refine lv_iload_n hx hb dX4_set_18 rfl (lv_at hl 1 rfl) ?_
    refine lv_iload_n hx hb dX4_set_19 rfl (lv_at hl 2 rfl) ?_
    obtain ⟨r4, h3, hM⟩ := bd1_some sm_ne hM
    refine gCi (gV (As := [.int a1, .int a2]) (rest := []) ⟨hx, hb, hml, hown, hts⟩ (kX3_hasNumber l dC dI ad cA hap _ c a1 a2 _ h3) (cwV 2 hts gX4_set_X3_hasNumber rfl rfl rfl (by decide +kernel) ⟨Nat.le_of_ble_eq_true rfl, Nat.le_of_ble_eq_true rfl⟩) (kC_st _ _) hK hP (va_recv hK1 hP (ci := 3) (q0 := 1) rfl rfl) rfl hl.1 rfl (Nat.le_of_ble_eq_true rfl) dX4_set_20 ⟨Nat.zero_le _, Nat.zero_le _⟩) hS (fun H locs hP hS => ?_)
    refine lv_if_ne (tgt := 29) hx hb dX4_set_23 (by decide) (fun e7 => ?_) (fun e7 => ?_)
    · have hM := it_n e7 hM
      refine lv_aload_n hx hb dX4_set_29 rfl (lv_at hl 0 rfl) ?_
      refine gget (v := .ref (ad 1)) hx hb hts i4 hown hK1 hP 0 rfl rfl 0 (by decide) f12 rfl rfl dX4_set_30 ?_
      refine gget (v := .ref (ad 8)) hx hb hts i3 hown hK1 hP 1 rfl rfl 5 (by decide) f91 rfl rfl dX4_set_33 ?_
      refine lv_iload_n hx hb dX4_set_36 rfl (lv_at hl 1 rfl) ?_
      refine lv_iload_n hx hb dX4_set_37 rfl (lv_at hl 2 rfl) ?_
      refine lv_iadd hx hb dX4_set_38 ?_
      refine lv_iload_n hx hb dX4_set_39 rfl (lv_at hl 3 rfl) ?_
      obtain ⟨h6, c5, hc5, hM⟩ := stA_some sm_ne hM
      refine gast (w := wC ad cA) (c := c) (c1 := c5) hx hb hK1 hP (hD c) hS 8 3 rfl rfl h6 (by rw [hc5]; rfl) dX4_set_40 (fun H locs hP hS => ?_)
      refine lv_iconst (v := 1) hx hb dX4_set_41 (by decide) ?_
      exact W.iret hx hb hr (fun t ht hW => ⟨⟨_, _, rfl, pr2 hM, hPt ht hP⟩, hS.F ht⟩) hS.2.2 dX4_set_42
    · have hM := it_p e7 hM
      refine lv_bipush (v := (-12)) hx hb dX4_set_26 (by decide) ?_
      exact W.iret hx hb hr (fun t ht hW => ⟨⟨_, _, rfl, pr2 hM, hPt ht hP⟩, hS.F ht⟩) hS.2.2 dX4_set_28
  · have hM := it_p e8 hM
    refine lv_bipush (v := (-101)) hx hb dX4_set_11 (by decide) ?_
    exact W.iret hx hb hr (fun t ht hW => ⟨⟨_, _, rfl, pr2 hM, hPt ht hP⟩, hS.F ht⟩) hS.2.2 dX4_set_13
set_option maxHeartbeats 4000000 in
set_option maxRecDepth 100000 in
theorem kX4_get (l : Launch) (dC : Nat → ClassId) (dI : Nat → Nat → Nat) (ad : Nat → Nat) (cA : Nat → ClassId) (hap : apart 17 ad) (sz : Nat) (c : HS) (a1 : Int32) (a2 : Int32) (r0 : Int32) (c9 : HS) (hM : pX4_get c a1 a2 = some (r0, c9)) : Met l yX4_get wsX4_get ({ frames := 4, cells := 0, slots := 0, locals := 85 }) (gP (dC, dI) (wC ad cA) (kC (dC, dI) cA) c sz [.ref (ad 0), .int a1, .int a2]) (gQi (dC, dI) (wC ad cA) (fA 17 ad sz) r0 c9) 0 0 (fA 17 ad sz) := by
  refine Met.ofW (cc := cX4_get) (maxL := 3) (ret := (some .int)) (by decide) rfl ?_
  intro p e s m args below meth cd s₁ B hml hv
  obtain ⟨rfl, rfl, hP, hK⟩ := hv
  have hx := B.exec
  have hb := B.bytes
  have hr := B.returns
  have hts := atoms_spec (ws := wsX4_get) B.pre
  have hown : s.vm.findClass RX4 = some m.cls := findClass_of_methodNamed B.named
  have hlocks := B.notSynchronized
  have hK1 : va_K (dC, dI) vwCl (tC cA) s := hK.1
  have hD : ∀ c, va_D (fA 17 ad s.heap.size) (wC ad cA c) := fun c => dC_ok hap cA c _
  have hS : va_S (fA 17 ad s.heap.size) s.heap s.heap [] := va_S.rf
  have i4 : ∀ w ∈ u_ws RX4 TX4 7, w ∈ wsX4_get := by decide +kernel
  have i3 : ∀ w ∈ u_ws RX3 TX3 9, w ∈ wsX4_get := by decide +kernel
  have f12 := hts (.fieldLink RX4 12 "StickyHeap" "space" "LStickyHeap$Space;") (by decide +kernel)
  have f56 := hts (.fieldLink RX4 56 "StickyHeap" "lastSeen" "I") (by decide +kernel)
  have f91 := hts (.fieldLink RX4 91 "StickyHeap$Space" "words" "[I") (by decide +kernel)
  have hl := lv_entry [.ref (ad 0), .int a1, .int a2] (n := 3) (Nat.le_of_ble_eq_true rfl)
  rw [lg_entry_eq]
  generalize (lg_sl [.ref (ad 0), .int a1, .int a2] ++ List.replicate (3 - (lg_sl [.ref (ad 0), .int a1, .int a2]).length) Slot.unset).toArray = ls at hl ⊢
  have hl : lv_has ls 3 [(0, .ref (ad 0)), (1, .int a1), (2, .int a2)] := hl
  have hP : va_P (dC, dI) vwCl (wC ad cA c) s.heap := hP
  unfold pX4_get at hM
  refine lv_aload_n hx hb dX4_get_0 rfl (lv_at hl 0 rfl) ?_
  refine gget (v := .ref (ad 1)) hx hb hts i4 hown hK1 hP 0 rfl rfl 0 (by decide) f12 rfl rfl dX4_get_1 ?_
  refine lv_iload_n hx hb dX4_get_4 rfl (lv_at hl 1 rfl) ?_
  obtain ⟨r2, h1, hM⟩ := bd1_some sm_ne hM
  refine gCi (gV (As := [.int a1]) (rest := []) ⟨hx, hb, hml, hown, hts⟩ (kX3_isThing l dC dI ad cA hap _ c a1 _ h1) (cwV 1 hts gX4_get_X3_isThing rfl rfl rfl (by decide +kernel) ⟨Nat.le_of_ble_eq_true rfl, Nat.le_of_ble_eq_true rfl⟩) (kC_st _ _) hK hP (va_recv hK1 hP (ci := 3) (q0 := 1) rfl rfl) rfl hl.1 rfl (Nat.le_of_ble_eq_true rfl) dX4_get_5 ⟨Nat.zero_le _, Nat.zero_le _⟩) hS (fun H locs hP hS => ?_)
  refine lv_if_ne (tgt := 14) hx hb dX4_get_8 (by decide) (fun e9 => ?_) (fun e9 => ?_)
  · have hM := it_n e9 hM
    refine lv_aload_n hx hb dX4_get_14 rfl (lv_at hl 0 rfl) ?_
    refine gget (v := .ref (ad 1)) hx hb hts i4 hown hK1 hP 0 rfl rfl 0 (by decide) f12 rfl rfl dX4_get_15 ?_
    refine lv_iload_n hx hb dX4_get_18 rfl (lv_at hl 1 rfl) ?_
    refine lv_iload_n hx hb dX4_get_19 rfl (lv_at hl 2 rfl) ?_
    obtain ⟨r4, h3, hM⟩ := bd1_some sm_ne hM
    refine gCi (gV (As := [.int a1, .int a2]) (rest := []) ⟨hx, hb, hml, hown, hts⟩ (kX3_hasNumber l dC dI ad cA hap _ c a1 a2 _ h3) (cwV 2 hts gX4_get_X3_hasNumber rfl rfl rfl (by decide +kernel) ⟨Nat.le_of_ble_eq_true rfl, Nat.le_of_ble_eq_true rfl⟩) (kC_st _ _) hK hP (va_recv hK1 hP (ci := 3) (q0 := 1) rfl rfl) rfl hl.1 rfl (Nat.le_of_ble_eq_true rfl) dX4_get_20 ⟨Nat.zero_le _, Nat.zero_le _⟩) hS (fun H locs hP hS => ?_)
    refine lv_if_ne (tgt := 29) hx hb dX4_get_23 (by decide) (fun e8 => ?_) (fun e8 => ?_)
    · have hM := it_n e8 hM
      refine lv_aload_n hx hb dX4_get_29 rfl (lv_at hl 0 rfl) ?_
      refine lv_aload_n hx hb dX4_get_30 rfl (lv_at hl 0 rfl) ?_
      refine gget (v := .ref (ad 1)) hx hb hts i4 hown hK1 hP 0 rfl rfl 0 (by decide) f12 rfl rfl dX4_get_31 ?_
      refine gget (v := .ref (ad 8)) hx hb hts i3 hown hK1 hP 1 rfl rfl 5 (by decide) f91 rfl rfl dX4_get_34 ?_
      refine lv_iload_n hx hb dX4_get_37 rfl (lv_at hl 1 rfl) ?_
      refine lv_iload_n hx hb dX4_get_38 rfl (lv_at hl 2 rfl) ?_
      refine lv_iadd hx hb dX4_get_39 ?_
      obtain ⟨h6, x5, hx5, hM⟩ := ldA_some sm_ne hM
      refine gald hx hb hK1 hP 8 3 rfl rfl h6 hx5 dX4_get_40 ?_
      obtain ⟨c7, hc7, hM⟩ := pfA_some hM
      refine gput (w := wC ad cA) (c := c) (c1 := c7) (v := .int x5) hx hb hts i4 tyX4 tyX4_ok nmX4 hown hK1 hP (hD c) hS 0 rfl rfl 5 (by decide) f56 rfl rfl rfl rfl (Nat.le_of_ble_eq_true rfl) (by rw [hc7]; rfl) dX4_get_41 (fun H locs hP hS => ?_)
      refine lv_iconst (v := 1) hx hb dX4_get_44 (by decide) ?_
      exact W.iret hx hb hr (fun t ht hW => ⟨⟨_, _, rfl, pr2 hM, hPt ht hP⟩, hS.F ht⟩) hS.2.2 dX4_get_45
    · have hM := it_p e8 hM
      refine lv_bipush (v := (-12)) hx hb dX4_get_26 (by decide) ?_
      exact W.iret hx hb hr (fun t ht hW => ⟨⟨_, _, rfl, pr2 hM, hPt ht hP⟩, hS.F ht⟩) hS.2.2 dX4_get_28
  · have hM := it_p e9 hM
    refine lv_bipush (v := (-101)) hx hb dX4_get_11 (by decide) ?_
    exact W.iret hx hb hr (fun t ht hW => ⟨⟨_, _, rfl, pr2 hM, hPt ht hP⟩, hS.F ht⟩) hS.2.2 dX4_get_13
set_option maxHeartbeats 4000000 in
set_option maxRecDepth 100000 in
theorem kX4_seen (l : Launch) (dC : Nat → ClassId) (dI : Nat → Nat → Nat) (ad : Nat → Nat) (cA : Nat → ClassId) (hap : apart 17 ad) (sz : Nat) (c : HS) (r0 : Int32) (hM : pX4_seen c = r0) : Met l yX4_seen wsX4_seen ({ frames := 0, cells := 0, slots := 0, locals := 0 }) (gP (dC, dI) (wC ad cA) (kC (dC, dI) cA) c sz [.ref (ad 0)]) (gQi (dC, dI) (wC ad cA) (fA 17 ad sz) r0 c) 0 0 (fA 17 ad sz) := by
  refine Met.ofW (cc := cX4_seen) (maxL := 1) (ret := (some .int)) (by decide) rfl ?_
  intro p e s m args below meth cd s₁ B hml hv
  obtain ⟨rfl, rfl, hP, hK⟩ := hv
  have hx := B.exec
  have hb := B.bytes
  have hr := B.returns
  have hts := atoms_spec (ws := wsX4_seen) B.pre
  have hown : s.vm.findClass RX4 = some m.cls := findClass_of_methodNamed B.named
  have hlocks := B.notSynchronized
  have hK1 : va_K (dC, dI) vwCl (tC cA) s := hK.1
  have hD : ∀ c, va_D (fA 17 ad s.heap.size) (wC ad cA c) := fun c => dC_ok hap cA c _
  have hS : va_S (fA 17 ad s.heap.size) s.heap s.heap [] := va_S.rf
  have i4 : ∀ w ∈ u_ws RX4 TX4 7, w ∈ wsX4_seen := by decide +kernel
  have f56 := hts (.fieldLink RX4 56 "StickyHeap" "lastSeen" "I") (by decide +kernel)
  have hl := lv_entry [.ref (ad 0)] (n := 1) (Nat.le_of_ble_eq_true rfl)
  rw [lg_entry_eq]
  generalize (lg_sl [.ref (ad 0)] ++ List.replicate (1 - (lg_sl [.ref (ad 0)]).length) Slot.unset).toArray = ls at hl ⊢
  have hl : lv_has ls 1 [(0, .ref (ad 0))] := hl
  have hP : va_P (dC, dI) vwCl (wC ad cA c) s.heap := hP
  unfold pX4_seen at hM
  refine lv_aload_n hx hb dX4_seen_0 rfl (lv_at hl 0 rfl) ?_
  refine gget (v := .int (c.1 0 12)) hx hb hts i4 hown hK1 hP 0 rfl rfl 5 (by decide) f56 rfl rfl dX4_seen_1 ?_
  exact W.iret hx hb hr (fun t ht hW => ⟨⟨_, _, rfl, ⟨hM, rfl⟩, hPt ht hP⟩, hS.F ht⟩) hS.2.2 dX4_seen_4
set_option maxHeartbeats 4000000 in
set_option maxRecDepth 100000 in
theorem kX4_wordsFor (l : Launch) (dC : Nat → ClassId) (dI : Nat → Nat → Nat) (ad : Nat → Nat) (cA : Nat → ClassId) (hap : apart 17 ad) (sz : Nat) (c : HS) (a0 : Int32) (r0 : Int32) (hM : pX4_wordsFor a0 = some r0) : Met l yX4_wordsFor wsX4_wordsFor ({ frames := 2, cells := 0, slots := 0, locals := 41 }) (gP (dC, dI) (wC ad cA) (kC (dC, dI) cA) c sz [.int a0]) (gQi (dC, dI) (wC ad cA) (fA 17 ad sz) r0 c) 0 0 (fA 17 ad sz) := by
  refine Met.ofW (cc := cX4_wordsFor) (maxL := 2) (ret := (some .int)) (by decide) rfl ?_
  intro p e s m args below meth cd s₁ B hml hv
  obtain ⟨rfl, rfl, hP, hK⟩ := hv
  have hx := B.exec
  have hb := B.bytes
  have hr := B.returns
  have hts := atoms_spec (ws := wsX4_wordsFor) B.pre
  have hown : s.vm.findClass RX4 = some m.cls := findClass_of_methodNamed B.named
  have hlocks := B.notSynchronized
  have hK1 : va_K (dC, dI) vwCl (tC cA) s := hK.1
  have hD : ∀ c, va_D (fA 17 ad s.heap.size) (wC ad cA c) := fun c => dC_ok hap cA c _
  have hS : va_S (fA 17 ad s.heap.size) s.heap s.heap [] := va_S.rf
  have hl := lv_entry [.int a0] (n := 2) (Nat.le_of_ble_eq_true rfl)
  rw [lg_entry_eq]
  generalize (lg_sl [.int a0] ++ List.replicate (2 - (lg_sl [.int a0]).length) Slot.unset).toArray = ls at hl ⊢
  have hl : lv_has ls 2 [(0, .int a0)] := hl
  have hP : va_P (dC, dI) vwCl (wC ad cA c) s.heap := hP
  unfold pX4_wordsFor at hM
  refine lv_iload_n hx hb dX4_wordsFor_0 rfl (lv_at hl 0 rfl) ?_
  obtain ⟨r2, h1, hM⟩ := bd1_some sm_ne hM
  refine gCi (gS (As := [.int a0]) (rest := []) ⟨hx, hb, hml, hown, hts⟩ (kX4_classFor l dC dI ad cA hap _ c a0 _ h1) (va_cwS 1 hts gX4_wordsFor_X4_classFor rfl rfl rfl (by decide +kernel) ⟨Nat.le_of_ble_eq_true rfl, Nat.le_of_ble_eq_true rfl⟩) (kC_st _ _) hK hP rfl hl.1 rfl (Nat.le_of_ble_eq_true rfl) dX4_wordsFor_1 ⟨Nat.zero_le _, Nat.zero_le _⟩) hS (fun H locs hP hS => ?_)
  refine lv_istore_n (lv' := [(1, .int r2), (0, .int a0)]) hx hb dX4_wordsFor_4 rfl hl (by decide) rfl (fun ls hl => ?_)
  refine lv_iload_n hx hb dX4_wordsFor_5 rfl (lv_at hl 0 rfl) ?_
  refine lv_iconst (v := 5) hx hb dX4_wordsFor_6 (by decide) ?_
  refine lv_icmp_ne (tgt := 20) hx hb dX4_wordsFor_7 (by decide) (fun e3 => ?_) (fun e3 => ?_)
  · have hM := it_n e3 hM
    refine lv_iload_n hx hb dX4_wordsFor_20 rfl (lv_at hl 0 rfl) ?_
    refine gCi (gS (As := [.int r2]) (rest := []) ⟨hx, hb, hml, hown, hts⟩ (kX4_cellWords l dC dI ad cA hap _ c r2 _ rfl) (va_cwS 1 hts gX4_wordsFor_X4_cellWords rfl rfl rfl (by decide +kernel) ⟨Nat.le_of_ble_eq_true rfl, Nat.le_of_ble_eq_true rfl⟩) (kC_st _ _) hK hP rfl hl.1 rfl (Nat.le_of_ble_eq_true rfl) dX4_wordsFor_21 ⟨Nat.zero_le _, Nat.zero_le _⟩) hS (fun H locs hP hS => ?_)
    exact W.iret hx hb hr (fun t ht hW => ⟨⟨_, _, rfl, ⟨pr1 hM, rfl⟩, hPt ht hP⟩, hS.F ht⟩) hS.2.2 dX4_wordsFor_24
  · have hM := it_p e3 hM
    refine lv_iload_n hx hb dX4_wordsFor_10 rfl (lv_at hl 1 rfl) ?_
    refine gCi (gS (As := [.int a0]) (rest := []) ⟨hx, hb, hml, hown, hts⟩ (kX4_blocksFor l dC dI ad cA hap _ c a0 _ rfl) (va_cwS 1 hts gX4_wordsFor_X4_blocksFor rfl rfl rfl (by decide +kernel) ⟨Nat.le_of_ble_eq_true rfl, Nat.le_of_ble_eq_true rfl⟩) (kC_st _ _) hK hP rfl hl.1 rfl (Nat.le_of_ble_eq_true rfl) dX4_wordsFor_11 ⟨Nat.zero_le _, Nat.zero_le _⟩) hS (fun H locs hP hS => ?_)
    refine lv_bipush (v := 64) hx hb dX4_wordsFor_14 (by decide) ?_
    refine lv_imul hx hb dX4_wordsFor_16 ?_
    refine lv_goto (tgt := 24) hx hb dX4_wordsFor_17 (by decide) ?_
    exact W.iret hx hb hr (fun t ht hW => ⟨⟨_, _, rfl, ⟨pr1 hM, rfl⟩, hPt ht hP⟩, hS.F ht⟩) hS.2.2 dX4_wordsFor_24
set_option maxHeartbeats 4000000 in
set_option maxRecDepth 100000 in
theorem kX4_about (l : Launch) (dC : Nat → ClassId) (dI : Nat → Nat → Nat) (ad : Nat → Nat) (cA : Nat → ClassId) (hap : apart 17 ad) (sz : Nat) (c : HS) (a1 : Int32) (a2 : Int32) (r0 : Int32) (hM : pX4_about c a1 a2 = some r0) : Met l yX4_about wsX4_about ({ frames := 3, cells := 0, slots := 0, locals := 64 }) (gP (dC, dI) (wC ad cA) (kC (dC, dI) cA) c sz [.ref (ad 0), .int a1, .int a2]) (gQi (dC, dI) (wC ad cA) (fA 17 ad sz) r0 c) 0 0 (fA 17 ad sz) := by
  refine Met.ofW (cc := cX4_about) (maxL := 3) (ret := (some .int)) (by decide) rfl ?_
  intro p e s m args below meth cd s₁ B hml hv
  obtain ⟨rfl, rfl, hP, hK⟩ := hv
  have hx := B.exec
  have hb := B.bytes
  have hr := B.returns
  have hts := atoms_spec (ws := wsX4_about) B.pre
  have hown : s.vm.findClass RX4 = some m.cls := findClass_of_methodNamed B.named
  have hlocks := B.notSynchronized
  have hK1 : va_K (dC, dI) vwCl (tC cA) s := hK.1
  have hD : ∀ c, va_D (fA 17 ad s.heap.size) (wC ad cA c) := fun c => dC_ok hap cA c _
  have hS : va_S (fA 17 ad s.heap.size) s.heap s.heap [] := va_S.rf
  have i4 : ∀ w ∈ u_ws RX4 TX4 7, w ∈ wsX4_about := by decide +kernel
  have f12 := hts (.fieldLink RX4 12 "StickyHeap" "space" "LStickyHeap$Space;") (by decide +kernel)
  have f19 := hts (.fieldLink RX4 19 "StickyHeap" "memory" "LStickyHeap$Memory;") (by decide +kernel)
  have hl := lv_entry [.ref (ad 0), .int a1, .int a2] (n := 3) (Nat.le_of_ble_eq_true rfl)
  rw [lg_entry_eq]
  generalize (lg_sl [.ref (ad 0), .int a1, .int a2] ++ List.replicate (3 - (lg_sl [.ref (ad 0), .int a1, .int a2]).length) Slot.unset).toArray = ls at hl ⊢
  have hl : lv_has ls 3 [(0, .ref (ad 0)), (1, .int a1), (2, .int a2)] := hl
  have hP : va_P (dC, dI) vwCl (wC ad cA c) s.heap := hP
  unfold pX4_about at hM
  refine lv_aload_n hx hb dX4_about_0 rfl (lv_at hl 0 rfl) ?_
  refine gget (v := .ref (ad 1)) hx hb hts i4 hown hK1 hP 0 rfl rfl 0 (by decide) f12 rfl rfl dX4_about_1 ?_
  refine lv_iload_n hx hb dX4_about_4 rfl (lv_at hl 1 rfl) ?_
  obtain ⟨r2, h1, hM⟩ := bd1_some sm_ne hM
  refine gCi (gV (As := [.int a1]) (rest := []) ⟨hx, hb, hml, hown, hts⟩ (kX3_isThing l dC dI ad cA hap _ c a1 _ h1) (cwV 1 hts gX4_about_X3_isThing rfl rfl rfl (by decide +kernel) ⟨Nat.le_of_ble_eq_true rfl, Nat.le_of_ble_eq_true rfl⟩) (kC_st _ _) hK hP (va_recv hK1 hP (ci := 3) (q0 := 1) rfl rfl) rfl hl.1 rfl (Nat.le_of_ble_eq_true rfl) dX4_about_5 ⟨Nat.zero_le _, Nat.zero_le _⟩) hS (fun H locs hP hS => ?_)
  refine lv_if_ne (tgt := 14) hx hb dX4_about_8 (by decide) (fun e20 => ?_) (fun e20 => ?_)
  · have hM := it_n e20 hM
    refine lv_iload_n hx hb dX4_about_14 rfl (lv_at hl 2 rfl) ?_
    by_cases e15_0 : a2 = 0
    · have hM := it_p e15_0 hM
      refine lv_tableIn (off := 37) (tgt := 52) hx hb dX4_about_15 (by rw [e15_0]; decide) (by rw [e15_0]; decide) (by rw [e15_0]; rfl) (by decide) ?_
      refine lv_aload_n hx hb dX4_about_52 rfl (lv_at hl 0 rfl) ?_
      refine gget (v := .ref (ad 1)) hx hb hts i4 hown hK1 hP 0 rfl rfl 0 (by decide) f12 rfl rfl dX4_about_53 ?_
      refine lv_iload_n hx hb dX4_about_56 rfl (lv_at hl 1 rfl) ?_
      obtain ⟨r4, h3, hM⟩ := bd1_some sm_ne hM
      refine gCi (gV (As := [.int a1]) (rest := []) ⟨hx, hb, hml, hown, hts⟩ (kX3_referencesOf l dC dI ad cA hap _ c a1 _ h3) (cwV 1 hts gX4_about_X3_referencesOf rfl rfl rfl (by decide +kernel) ⟨Nat.le_of_ble_eq_true rfl, Nat.le_of_ble_eq_true rfl⟩) (kC_st _ _) hK hP (va_recv hK1 hP (ci := 3) (q0 := 1) rfl rfl) rfl hl.1 rfl (Nat.le_of_ble_eq_true rfl) dX4_about_57 ⟨Nat.zero_le _, Nat.zero_le _⟩) hS (fun H locs hP hS => ?_)
      exact W.iret hx hb hr (fun t ht hW => ⟨⟨_, _, rfl, ⟨pr1 hM, rfl⟩, hPt ht hP⟩, hS.F ht⟩) hS.2.2 dX4_about_60
    have hM := it_n e15_0 hM
    by_cases e15_1 : a2 = 1
    · have hM := it_p e15_1 hM
      refine lv_tableIn (off := 46) (tgt := 61) hx hb dX4_about_15 (by rw [e15_1]; decide) (by rw [e15_1]; decide) (by rw [e15_1]; rfl) (by decide) ?_
      refine lv_aload_n hx hb dX4_about_61 rfl (lv_at hl 0 rfl) ?_
      refine gget (v := .ref (ad 1)) hx hb hts i4 hown hK1 hP 0 rfl rfl 0 (by decide) f12 rfl rfl dX4_about_62 ?_
      refine lv_iload_n hx hb dX4_about_65 rfl (lv_at hl 1 rfl) ?_
      obtain ⟨r6, h5, hM⟩ := bd1_some sm_ne hM
      refine gCi (gV (As := [.int a1]) (rest := []) ⟨hx, hb, hml, hown, hts⟩ (kX3_numbersOf l dC dI ad cA hap _ c a1 _ h5) (cwV 1 hts gX4_about_X3_numbersOf rfl rfl rfl (by decide +kernel) ⟨Nat.le_of_ble_eq_true rfl, Nat.le_of_ble_eq_true rfl⟩) (kC_st _ _) hK hP (va_recv hK1 hP (ci := 3) (q0 := 1) rfl rfl) rfl hl.1 rfl (Nat.le_of_ble_eq_true rfl) dX4_about_66 ⟨Nat.zero_le _, Nat.zero_le _⟩) hS (fun H locs hP hS => ?_)
      exact W.iret hx hb hr (fun t ht hW => ⟨⟨_, _, rfl, ⟨pr1 hM, rfl⟩, hPt ht hP⟩, hS.F ht⟩) hS.2.2 dX4_about_69
    have hM := it_n e15_1 hM
    by_cases e15_2 : a2 = 2
    · have hM := it_p e15_2 hM
      refine lv_tableIn (off := 55) (tgt := 70) hx hb dX4_about_15 (by rw [e15_2]; decide) (by rw [e15_2]; decide) (by rw [e15_2]; rfl) (by decide) ?_
      refine lv_aload_n hx hb dX4_about_70 rfl (lv_at hl 0 rfl) ?_
      refine gget (v := .ref (ad 1)) hx hb hts i4 hown hK1 hP 0 rfl rfl 0 (by decide) f12 rfl rfl dX4_about_71 ?_
      refine lv_iload_n hx hb dX4_about_74 rfl (lv_at hl 1 rfl) ?_
      obtain ⟨r8, h7, hM⟩ := bd1_some sm_ne hM
      refine gCi (gV (As := [.int a1]) (rest := []) ⟨hx, hb, hml, hown, hts⟩ (kX3_ageOf l dC dI ad cA hap _ c a1 _ h7) (cwV 1 hts gX4_about_X3_ageOf rfl rfl rfl (by decide +kernel) ⟨Nat.le_of_ble_eq_true rfl, Nat.le_of_ble_eq_true rfl⟩) (kC_st _ _) hK hP (va_recv hK1 hP (ci := 3) (q0 := 1) rfl rfl) rfl hl.1 rfl (Nat.le_of_ble_eq_true rfl) dX4_about_75 ⟨Nat.zero_le _, Nat.zero_le _⟩) hS (fun H locs hP hS => ?_)
      refine lv_iconst (v := 3) hx hb dX4_about_78 (by decide) ?_
      refine lv_icmp_ne (tgt := 86) hx hb dX4_about_79 (by decide) (fun e9 => ?_) (fun e9 => ?_)
      · have hM := it_n e9 hM
        refine lv_iconst (v := 0) hx hb dX4_about_86 (by decide) ?_
        refine gCi (gS (As := [.int 0]) (rest := []) ⟨hx, hb, hml, hown, hts⟩ (kX4_flag l dC dI ad cA hap _ c 0 _ rfl) (va_cwS 1 hts gX4_about_X4_flag rfl rfl rfl (by decide +kernel) ⟨Nat.le_of_ble_eq_true rfl, Nat.le_of_ble_eq_true rfl⟩) (kC_st _ _) hK hP rfl hl.1 rfl (Nat.le_of_ble_eq_true rfl) dX4_about_87 ⟨Nat.zero_le _, Nat.zero_le _⟩) hS (fun H locs hP hS => ?_)
        exact W.iret hx hb hr (fun t ht hW => ⟨⟨_, _, rfl, ⟨pr1 hM, rfl⟩, hPt ht hP⟩, hS.F ht⟩) hS.2.2 dX4_about_90
      · have hM := it_p e9 hM
        refine lv_iconst (v := 1) hx hb dX4_about_82 (by decide) ?_
        refine lv_goto (tgt := 87) hx hb dX4_about_83 (by decide) ?_
        refine gCi (gS (As := [.int 1]) (rest := []) ⟨hx, hb, hml, hown, hts⟩ (kX4_flag l dC dI ad cA hap _ c 1 _ rfl) (va_cwS 1 hts gX4_about_X4_flag rfl rfl rfl (by decide +kernel) ⟨Nat.le_of_ble_eq_true rfl, Nat.le_of_ble_eq_true rfl⟩) (kC_st _ _) hK hP rfl hl.1 rfl (Nat.le_of_ble_eq_true rfl) dX4_about_87 ⟨Nat.zero_le _, Nat.zero_le _⟩) hS (fun H locs hP hS => ?_)
        exact W.iret hx hb hr (fun t ht hW => ⟨⟨_, _, rfl, ⟨pr1 hM, rfl⟩, hPt ht hP⟩, hS.F ht⟩) hS.2.2 dX4_about_90
    have hM := it_n e15_2 hM
    by_cases e15_3 : a2 = 3
    · have hM := it_p e15_3 hM
      refine lv_tableIn (off := 76) (tgt := 91) hx hb dX4_about_15 (by rw [e15_3]; decide) (by rw [e15_3]; decide) (by rw [e15_3]; rfl) (by decide) ?_
      refine lv_aload_n hx hb dX4_about_91 rfl (lv_at hl 0 rfl) ?_
      refine gget (v := .ref (ad 2)) hx hb hts i4 hown hK1 hP 0 rfl rfl 1 (by decide) f19 rfl rfl dX4_about_92 ?_
      refine lv_aload_n hx hb dX4_about_95 rfl (lv_at hl 0 rfl) ?_
      refine gget (v := .ref (ad 1)) hx hb hts i4 hown hK1 hP 0 rfl rfl 0 (by decide) f12 rfl rfl dX4_about_96 ?_
      refine lv_iload_n hx hb dX4_about_99 rfl (lv_at hl 1 rfl) ?_
      obtain ⟨r11, h10, hM⟩ := bd1_some sm_ne hM
      refine gCi (gV (As := [.ref (ad 1), .int a1]) (rest := []) ⟨hx, hb, hml, hown, hts⟩ (kX2_counts l dC dI ad cA hap _ c a1 _ h10) (cwV 2 hts gX4_about_X2_counts rfl rfl rfl (by decide +kernel) ⟨Nat.le_of_ble_eq_true rfl, Nat.le_of_ble_eq_true rfl⟩) (kC_st _ _) hK hP (va_recv hK1 hP (ci := 2) (q0 := 2) rfl rfl) rfl hl.1 rfl (Nat.le_of_ble_eq_true rfl) dX4_about_100 ⟨Nat.zero_le _, Nat.zero_le _⟩) hS (fun H locs hP hS => ?_)
      refine gCi (gS (As := [.int r11]) (rest := []) ⟨hx, hb, hml, hown, hts⟩ (kX4_flag l dC dI ad cA hap _ c r11 _ rfl) (va_cwS 1 hts gX4_about_X4_flag rfl rfl rfl (by decide +kernel) ⟨Nat.le_of_ble_eq_true rfl, Nat.le_of_ble_eq_true rfl⟩) (kC_st _ _) hK hP rfl hl.1 rfl (Nat.le_of_ble_eq_true rfl) dX4_about_103 ⟨Nat.zero_le _, Nat.zero_le _⟩) hS (fun H locs hP hS => ?_)
      exact W.iret hx hb hr (fun t ht hW => ⟨⟨_, _, rfl, ⟨pr1 hM, rfl⟩, hPt ht hP⟩, hS.F ht⟩) hS.2.2 dX4_about_106
    have hM := it_n e15_3 hM
    by_cases e15_4 : a2 = 4
    · have hM := it_p e15_4 hM
      refine lv_tableIn (off := 92) (tgt := 107) hx hb dX4_about_15 (by rw [e15_4]; decide) (by rw [e15_4]; decide) (by rw [e15_4]; rfl) (by decide) ?_
      refine lv_aload_n hx hb dX4_about_107 rfl (lv_at hl 0 rfl) ?_
      refine gget (v := .ref (ad 1)) hx hb hts i4 hown hK1 hP 0 rfl rfl 0 (by decide) f12 rfl rfl dX4_about_108 ?_
      refine lv_iload_n hx hb dX4_about_111 rfl (lv_at hl 1 rfl) ?_
      obtain ⟨r13, h12, hM⟩ := bd1_some sm_ne hM
      refine gCi (gV (As := [.int a1]) (rest := []) ⟨hx, hb, hml, hown, hts⟩ (kX3_sizeOf l dC dI ad cA hap _ c a1 _ h12) (cwV 1 hts gX4_about_X3_sizeOf rfl rfl rfl (by decide +kernel) ⟨Nat.le_of_ble_eq_true rfl, Nat.le_of_ble_eq_true rfl⟩) (kC_st _ _) hK hP (va_recv hK1 hP (ci := 3) (q0 := 1) rfl rfl) rfl hl.1 rfl (Nat.le_of_ble_eq_true rfl) dX4_about_112 ⟨Nat.zero_le _, Nat.zero_le _⟩) hS (fun H locs hP hS => ?_)
      obtain ⟨r15, h14, hM⟩ := bd1_some sm_ne hM
      refine gCi (gS (As := [.int r13]) (rest := []) ⟨hx, hb, hml, hown, hts⟩ (kX4_wordsFor l dC dI ad cA hap _ c r13 _ h14) (va_cwS 1 hts gX4_about_X4_wordsFor rfl rfl rfl (by decide +kernel) ⟨Nat.le_of_ble_eq_true rfl, Nat.le_of_ble_eq_true rfl⟩) (kC_st _ _) hK hP rfl hl.1 rfl (Nat.le_of_ble_eq_true rfl) dX4_about_115 ⟨Nat.zero_le _, Nat.zero_le _⟩) hS (fun H locs hP hS => ?_)
      exact W.iret hx hb hr (fun t ht hW => ⟨⟨_, _, rfl, ⟨pr1 hM, rfl⟩, hPt ht hP⟩, hS.F ht⟩) hS.2.2 dX4_about_118
    have hM := it_n e15_4 hM
    by_cases e15_5 : a2 = 5
    · have hM := it_p e15_5 hM
      refine lv_tableIn (off := 104) (tgt := 119) hx hb dX4_about_15 (by rw [e15_5]; decide) (by rw [e15_5]; decide) (by rw [e15_5]; rfl) (by decide) ?_
      refine lv_aload_n hx hb dX4_about_119 rfl (lv_at hl 0 rfl) ?_
      refine gget (v := .ref (ad 1)) hx hb hts i4 hown hK1 hP 0 rfl rfl 0 (by decide) f12 rfl rfl dX4_about_120 ?_
      refine lv_iload_n hx hb dX4_about_123 rfl (lv_at hl 1 rfl) ?_
      obtain ⟨r17, h16, hM⟩ := bd1_some sm_ne hM
      refine gCi (gV (As := [.int a1]) (rest := []) ⟨hx, hb, hml, hown, hts⟩ (kX3_sizeOf l dC dI ad cA hap _ c a1 _ h16) (cwV 1 hts gX4_about_X3_sizeOf rfl rfl rfl (by decide +kernel) ⟨Nat.le_of_ble_eq_true rfl, Nat.le_of_ble_eq_true rfl⟩) (kC_st _ _) hK hP (va_recv hK1 hP (ci := 3) (q0 := 1) rfl rfl) rfl hl.1 rfl (Nat.le_of_ble_eq_true rfl) dX4_about_124 ⟨Nat.zero_le _, Nat.zero_le _⟩) hS (fun H locs hP hS => ?_)
      obtain ⟨r19, h18, hM⟩ := bd1_some sm_ne hM
      refine gCi (gS (As := [.int r17]) (rest := []) ⟨hx, hb, hml, hown, hts⟩ (kX4_classFor l dC dI ad cA hap _ c r17 _ h18) (va_cwS 1 hts gX4_about_X4_classFor rfl rfl rfl (by decide +kernel) ⟨Nat.le_of_ble_eq_true rfl, Nat.le_of_ble_eq_true rfl⟩) (kC_st _ _) hK hP rfl hl.1 rfl (Nat.le_of_ble_eq_true rfl) dX4_about_127 ⟨Nat.zero_le _, Nat.zero_le _⟩) hS (fun H locs hP hS => ?_)
      exact W.iret hx hb hr (fun t ht hW => ⟨⟨_, _, rfl, ⟨pr1 hM, rfl⟩, hPt ht hP⟩, hS.F ht⟩) hS.2.2 dX4_about_130
    have hM := it_n e15_5 hM
    refine lv_tableOut (tgt := 131) hx hb dX4_about_15 (tsw_out 5 (by decide) (fun k hk => ?_)) (by decide) ?_
    · rcases (show k = 0 ∨ k = 1 ∨ k = 2 ∨ k = 3 ∨ k = 4 ∨ k = 5 by omega) with rfl | rfl | rfl | rfl | rfl | rfl <;> assumption
    refine lv_bipush (v := (-102)) hx hb dX4_about_131 (by decide) ?_
    exact W.iret hx hb hr (fun t ht hW => ⟨⟨_, _, rfl, ⟨pr1 hM, rfl⟩, hPt ht hP⟩, hS.F ht⟩) hS.2.2 dX4_about_133
  · have hM := it_p e20 hM
    refine lv_bipush (v := (-101)) hx hb dX4_about_11 (by decide) ?_
    exact W.iret hx hb hr (fun t ht hW => ⟨⟨_, _, rfl, ⟨pr1 hM, rfl⟩, hPt ht hP⟩, hS.F ht⟩) hS.2.2 dX4_about_13
set_option maxHeartbeats 4000000 in
set_option maxRecDepth 100000 in
theorem kX4_points (l : Launch) (dC : Nat → ClassId) (dI : Nat → Nat → Nat) (ad : Nat → Nat) (cA : Nat → ClassId) (hap : apart 17 ad) (sz : Nat) (c : HS) (a1 : Int32) (r0 : Int32) (hM : pX4_points c a1 = some r0) : Met l yX4_points wsX4_points ({ frames := 2, cells := 0, slots := 0, locals := 45 }) (gP (dC, dI) (wC ad cA) (kC (dC, dI) cA) c sz [.ref (ad 0), .int a1]) (gQi (dC, dI) (wC ad cA) (fA 17 ad sz) r0 c) 0 0 (fA 17 ad sz) := by
  refine Met.ofW (cc := cX4_points) (maxL := 2) (ret := (some .int)) (by decide) rfl ?_
  intro p e s m args below meth cd s₁ B hml hv
  obtain ⟨rfl, rfl, hP, hK⟩ := hv
  have hx := B.exec
  have hb := B.bytes
  have hr := B.returns
  have hts := atoms_spec (ws := wsX4_points) B.pre
  have hown : s.vm.findClass RX4 = some m.cls := findClass_of_methodNamed B.named
  have hlocks := B.notSynchronized
  have hK1 : va_K (dC, dI) vwCl (tC cA) s := hK.1
  have hD : ∀ c, va_D (fA 17 ad s.heap.size) (wC ad cA c) := fun c => dC_ok hap cA c _
  have hS : va_S (fA 17 ad s.heap.size) s.heap s.heap [] := va_S.rf
  have i4 : ∀ w ∈ u_ws RX4 TX4 7, w ∈ wsX4_points := by decide +kernel
  have f12 := hts (.fieldLink RX4 12 "StickyHeap" "space" "LStickyHeap$Space;") (by decide +kernel)
  have hl := lv_entry [.ref (ad 0), .int a1] (n := 2) (Nat.le_of_ble_eq_true rfl)
  rw [lg_entry_eq]
  generalize (lg_sl [.ref (ad 0), .int a1] ++ List.replicate (2 - (lg_sl [.ref (ad 0), .int a1]).length) Slot.unset).toArray = ls at hl ⊢
  have hl : lv_has ls 2 [(0, .ref (ad 0)), (1, .int a1)] := hl
  have hP : va_P (dC, dI) vwCl (wC ad cA c) s.heap := hP
  unfold pX4_points at hM
  refine lv_aload_n hx hb dX4_points_0 rfl (lv_at hl 0 rfl) ?_
  refine gget (v := .ref (ad 1)) hx hb hts i4 hown hK1 hP 0 rfl rfl 0 (by decide) f12 rfl rfl dX4_points_1 ?_
  refine lv_iload_n hx hb dX4_points_4 rfl (lv_at hl 1 rfl) ?_
  obtain ⟨r2, h1, hM⟩ := bd1_some sm_ne hM
  refine gCi (gV (As := [.int a1]) (rest := []) ⟨hx, hb, hml, hown, hts⟩ (kX3_thingAt l dC dI ad cA hap _ c a1 _ h1) (cwV 1 hts gX4_points_X3_thingAt rfl rfl rfl (by decide +kernel) ⟨Nat.le_of_ble_eq_true rfl, Nat.le_of_ble_eq_true rfl⟩) (kC_st _ _) hK hP (va_recv hK1 hP (ci := 3) (q0 := 1) rfl rfl) rfl hl.1 rfl (Nat.le_of_ble_eq_true rfl) dX4_points_5 ⟨Nat.zero_le _, Nat.zero_le _⟩) hS (fun H locs hP hS => ?_)
  exact W.iret hx hb hr (fun t ht hW => ⟨⟨_, _, rfl, ⟨pr1 hM, rfl⟩, hPt ht hP⟩, hS.F ht⟩) hS.2.2 dX4_points_8
set_option maxHeartbeats 4000000 in
set_option maxRecDepth 100000 in
theorem kX4_isRoot (l : Launch) (dC : Nat → ClassId) (dI : Nat → Nat → Nat) (ad : Nat → Nat) (cA : Nat → ClassId) (hap : apart 17 ad) (sz : Nat) (c : HS) (a0 : Int32) (r0 : Int32) (hM : pX4_isRoot a0 = r0) : Met l yX4_isRoot wsX4_isRoot ({ frames := 0, cells := 0, slots := 0, locals := 0 }) (gP (dC, dI) (wC ad cA) (kC (dC, dI) cA) c sz [.int a0]) (gQi (dC, dI) (wC ad cA) (fA 17 ad sz) r0 c) 0 0 (fA 17 ad sz) := by
  refine Met.ofW (cc := cX4_isRoot) (maxL := 1) (ret := (some .boolean)) (by decide) rfl ?_
  intro p e s m args below meth cd s₁ B hml hv
  obtain ⟨rfl, rfl, hP, hK⟩ := hv
  have hx := B.exec
  have hb := B.bytes
  have hr := B.returns
  have hts := atoms_spec (ws := wsX4_isRoot) B.pre
  have hown : s.vm.findClass RX4 = some m.cls := findClass_of_methodNamed B.named
  have hlocks := B.notSynchronized
  have hK1 : va_K (dC, dI) vwCl (tC cA) s := hK.1
  have hD : ∀ c, va_D (fA 17 ad s.heap.size) (wC ad cA c) := fun c => dC_ok hap cA c _
  have hS : va_S (fA 17 ad s.heap.size) s.heap s.heap [] := va_S.rf
  have hl := lv_entry [.int a0] (n := 1) (Nat.le_of_ble_eq_true rfl)
  rw [lg_entry_eq]
  generalize (lg_sl [.int a0] ++ List.replicate (1 - (lg_sl [.int a0]).length) Slot.unset).toArray = ls at hl ⊢
  have hl : lv_has ls 1 [(0, .int a0)] := hl
  have hP : va_P (dC, dI) vwCl (wC ad cA c) s.heap := hP
  unfold pX4_isRoot at hM
  refine lv_iload_n hx hb dX4_isRoot_0 rfl (lv_at hl 0 rfl) ?_
  refine lv_if_lt (tgt := 14) hx hb dX4_isRoot_1 (by decide) (fun e2 => ?_) (fun e2 => ?_)
  · have hM := it_p e2 hM
    refine lv_iconst (v := 0) hx hb dX4_isRoot_14 (by decide) ?_
    exact W.zret hx hb hr rfl (fun t ht hW => ⟨⟨_, _, rfl, ⟨hM, rfl⟩, hPt ht hP⟩, hS.F ht⟩) hS.2.2 dX4_isRoot_15
  · have hM := it_n e2 hM
    refine lv_iload_n hx hb dX4_isRoot_4 rfl (lv_at hl 0 rfl) ?_
    refine lv_bipush (v := 10) hx hb dX4_isRoot_5 (by decide) ?_
    refine lv_icmp_ge (tgt := 14) hx hb dX4_isRoot_7 (by decide) (fun e1 => ?_) (fun e1 => ?_)
    · have hM := it_p e1 hM
      refine lv_iconst (v := 0) hx hb dX4_isRoot_14 (by decide) ?_
      exact W.zret hx hb hr rfl (fun t ht hW => ⟨⟨_, _, rfl, ⟨hM, rfl⟩, hPt ht hP⟩, hS.F ht⟩) hS.2.2 dX4_isRoot_15
    · have hM := it_n e1 hM
      refine lv_iconst (v := 1) hx hb dX4_isRoot_10 (by decide) ?_
      refine lv_goto (tgt := 15) hx hb dX4_isRoot_11 (by decide) ?_
      exact W.zret hx hb hr rfl (fun t ht hW => ⟨⟨_, _, rfl, ⟨hM, rfl⟩, hPt ht hP⟩, hS.F ht⟩) hS.2.2 dX4_isRoot_15
set_option maxHeartbeats 4000000 in
set_option maxRecDepth 100000 in
theorem kX4_root (l : Launch) (dC : Nat → ClassId) (dI : Nat → Nat → Nat) (ad : Nat → Nat) (cA : Nat → ClassId) (hap : apart 17 ad) (sz : Nat) (c : HS) (a1 : Int32) (a2 : Int32) (r0 : Int32) (c9 : HS) (hM : pX4_root c a1 a2 = some (r0, c9)) : Met l yX4_root wsX4_root ({ frames := 2, cells := 0, slots := 0, locals := 42 }) (gP (dC, dI) (wC ad cA) (kC (dC, dI) cA) c sz [.ref (ad 0), .int a1, .int a2]) (gQi (dC, dI) (wC ad cA) (fA 17 ad sz) r0 c9) 0 0 (fA 17 ad sz) := by
  refine Met.ofW (cc := cX4_root) (maxL := 4) (ret := (some .int)) (by decide) rfl ?_
  intro p e s m args below meth cd s₁ B hml hv
  obtain ⟨rfl, rfl, hP, hK⟩ := hv
  have hx := B.exec
  have hb := B.bytes
  have hr := B.returns
  have hts := atoms_spec (ws := wsX4_root) B.pre
  have hown : s.vm.findClass RX4 = some m.cls := findClass_of_methodNamed B.named
  have hlocks := B.notSynchronized
  have hK1 : va_K (dC, dI) vwCl (tC cA) s := hK.1
  have hD : ∀ c, va_D (fA 17 ad s.heap.size) (wC ad cA c) := fun c => dC_ok hap cA c _
  have hS : va_S (fA 17 ad s.heap.size) s.heap s.heap [] := va_S.rf
  have i4 : ∀ w ∈ u_ws RX4 TX4 7, w ∈ wsX4_root := by decide +kernel
  have i1 : ∀ w ∈ u_ws RX1 TX1 3, w ∈ wsX4_root := by decide +kernel
  have f26 := hts (.fieldLink RX4 26 "StickyHeap" "holders" "LStickyHeap$Holders;") (by decide +kernel)
  have f130 := hts (.fieldLink RX4 130 "StickyHeap$Holders" "roots" "[I") (by decide +kernel)
  have hl := lv_entry [.ref (ad 0), .int a1, .int a2] (n := 4) (Nat.le_of_ble_eq_true rfl)
  rw [lg_entry_eq]
  generalize (lg_sl [.ref (ad 0), .int a1, .int a2] ++ List.replicate (4 - (lg_sl [.ref (ad 0), .int a1, .int a2]).length) Slot.unset).toArray = ls at hl ⊢
  have hl : lv_has ls 4 [(0, .ref (ad 0)), (1, .int a1), (2, .int a2)] := hl
  have hP : va_P (dC, dI) vwCl (wC ad cA c) s.heap := hP
  unfold pX4_root at hM
  refine lv_iload_n hx hb dX4_root_0 rfl (lv_at hl 1 rfl) ?_
  refine gCi (gS (As := [.int a1]) (rest := []) ⟨hx, hb, hml, hown, hts⟩ (kX4_isRoot l dC dI ad cA hap _ c a1 _ rfl) (va_cwS 1 hts gX4_root_X4_isRoot rfl rfl rfl (by decide +kernel) ⟨Nat.le_of_ble_eq_true rfl, Nat.le_of_ble_eq_true rfl⟩) (kC_st _ _) hK hP rfl hl.1 rfl (Nat.le_of_ble_eq_true rfl) dX4_root_1 ⟨Nat.zero_le _, Nat.zero_le _⟩) hS (fun H locs hP hS => ?_)
  refine lv_if_eq (tgt := 15) hx hb dX4_root_4 (by decide) (fun e8 => ?_) (fun e8 => ?_)
  · have hM := it_p e8 hM
    refine lv_bipush (v := (-101)) hx hb dX4_root_15 (by decide) ?_
    exact W.iret hx hb hr (fun t ht hW => ⟨⟨_, _, rfl, pr2 hM, hPt ht hP⟩, hS.F ht⟩) hS.2.2 dX4_root_17
  · have hM := it_n e8 hM
    refine lv_aload_n hx hb dX4_root_7 rfl (lv_at hl 0 rfl) ?_
    refine lv_iload_n hx hb dX4_root_8 rfl (lv_at hl 2 rfl) ?_
    obtain ⟨r2, h1, hM⟩ := bd1_some sm_ne hM
    refine gCi (gV (As := [.int a2]) (rest := []) ⟨hx, hb, hml, hown, hts⟩ (kX4_isThingOrNone l dC dI ad cA hap _ c a2 _ h1) (cwV 1 hts gX4_root_X4_isThingOrNone rfl rfl rfl (by decide +kernel) ⟨Nat.le_of_ble_eq_true rfl, Nat.le_of_ble_eq_true rfl⟩) (kC_st _ _) hK hP (va_recv hK1 hP (ci := 4) (q0 := 0) rfl rfl) rfl hl.1 rfl (Nat.le_of_ble_eq_true rfl) dX4_root_9 ⟨Nat.zero_le _, Nat.zero_le _⟩) hS (fun H locs hP hS => ?_)
    refine lv_if_ne (tgt := 18) hx hb dX4_root_12 (by decide) (fun e7 => ?_) (fun e7 => ?_)
    · have hM := it_n e7 hM
      refine lv_aload_n hx hb dX4_root_18 rfl (lv_at hl 0 rfl) ?_
      refine gget (v := .ref (ad 3)) hx hb hts i4 hown hK1 hP 0 rfl rfl 2 (by decide) f26 rfl rfl dX4_root_19 ?_
      refine gget (v := .ref (ad 14)) hx hb hts i1 hown hK1 hP 3 rfl rfl 0 (by decide) f130 rfl rfl dX4_root_22 ?_
      refine lv_iload_n hx hb dX4_root_25 rfl (lv_at hl 1 rfl) ?_
      obtain ⟨h4, x3, hx3, hM⟩ := ldA_some sm_ne hM
      refine gald hx hb hK1 hP 14 9 rfl rfl h4 hx3 dX4_root_26 ?_
      refine lv_istore_n (lv' := [(3, .int x3), (0, .ref (ad 0)), (1, .int a1), (2, .int a2)]) hx hb dX4_root_27 rfl hl (by decide) rfl (fun ls hl => ?_)
      refine lv_aload_n hx hb dX4_root_28 rfl (lv_at hl 1 rfl) ?_
      refine gget (v := .ref (ad 3)) hx hb hts i4 hown hK1 hP 0 rfl rfl 2 (by decide) f26 rfl rfl dX4_root_29 ?_
      refine gget (v := .ref (ad 14)) hx hb hts i1 hown hK1 hP 3 rfl rfl 0 (by decide) f130 rfl rfl dX4_root_32 ?_
      refine lv_iload_n hx hb dX4_root_35 rfl (lv_at hl 2 rfl) ?_
      refine lv_iload_n hx hb dX4_root_36 rfl (lv_at hl 3 rfl) ?_
      obtain ⟨h6, c5, hc5, hM⟩ := stA_some sm_ne hM
      refine gast (w := wC ad cA) (c := c) (c1 := c5) hx hb hK1 hP (hD c) hS 14 9 rfl rfl h6 (by rw [hc5]; rfl) dX4_root_37 (fun H locs hP hS => ?_)
      refine lv_iload_n hx hb dX4_root_38 rfl (lv_at hl 0 rfl) ?_
      exact W.iret hx hb hr (fun t ht hW => ⟨⟨_, _, rfl, pr2 hM, hPt ht hP⟩, hS.F ht⟩) hS.2.2 dX4_root_39
    · have hM := it_p e7 hM
      refine lv_bipush (v := (-101)) hx hb dX4_root_15 (by decide) ?_
      exact W.iret hx hb hr (fun t ht hW => ⟨⟨_, _, rfl, pr2 hM, hPt ht hP⟩, hS.F ht⟩) hS.2.2 dX4_root_17
set_option maxHeartbeats 4000000 in
set_option maxRecDepth 100000 in
theorem kX4_rooted (l : Launch) (dC : Nat → ClassId) (dI : Nat → Nat → Nat) (ad : Nat → Nat) (cA : Nat → ClassId) (hap : apart 17 ad) (sz : Nat) (c : HS) (a1 : Int32) (r0 : Int32) (hM : pX4_rooted c a1 = some r0) : Met l yX4_rooted wsX4_rooted ({ frames := 1, cells := 0, slots := 0, locals := 20 }) (gP (dC, dI) (wC ad cA) (kC (dC, dI) cA) c sz [.ref (ad 0), .int a1]) (gQi (dC, dI) (wC ad cA) (fA 17 ad sz) r0 c) 0 0 (fA 17 ad sz) := by
  refine Met.ofW (cc := cX4_rooted) (maxL := 2) (ret := (some .int)) (by decide) rfl ?_
  intro p e s m args below meth cd s₁ B hml hv
  obtain ⟨rfl, rfl, hP, hK⟩ := hv
  have hx := B.exec
  have hb := B.bytes
  have hr := B.returns
  have hts := atoms_spec (ws := wsX4_rooted) B.pre
  have hown : s.vm.findClass RX4 = some m.cls := findClass_of_methodNamed B.named
  have hlocks := B.notSynchronized
  have hK1 : va_K (dC, dI) vwCl (tC cA) s := hK.1
  have hD : ∀ c, va_D (fA 17 ad s.heap.size) (wC ad cA c) := fun c => dC_ok hap cA c _
  have hS : va_S (fA 17 ad s.heap.size) s.heap s.heap [] := va_S.rf
  have i4 : ∀ w ∈ u_ws RX4 TX4 7, w ∈ wsX4_rooted := by decide +kernel
  have i1 : ∀ w ∈ u_ws RX1 TX1 3, w ∈ wsX4_rooted := by decide +kernel
  have f26 := hts (.fieldLink RX4 26 "StickyHeap" "holders" "LStickyHeap$Holders;") (by decide +kernel)
  have f130 := hts (.fieldLink RX4 130 "StickyHeap$Holders" "roots" "[I") (by decide +kernel)
  have hl := lv_entry [.ref (ad 0), .int a1] (n := 2) (Nat.le_of_ble_eq_true rfl)
  rw [lg_entry_eq]
  generalize (lg_sl [.ref (ad 0), .int a1] ++ List.replicate (2 - (lg_sl [.ref (ad 0), .int a1]).length) Slot.unset).toArray = ls at hl ⊢
  have hl : lv_has ls 2 [(0, .ref (ad 0)), (1, .int a1)] := hl
  have hP : va_P (dC, dI) vwCl (wC ad cA c) s.heap := hP
  unfold pX4_rooted at hM
  refine lv_iload_n hx hb dX4_rooted_0 rfl (lv_at hl 1 rfl) ?_
  refine gCi (gS (As := [.int a1]) (rest := []) ⟨hx, hb, hml, hown, hts⟩ (kX4_isRoot l dC dI ad cA hap _ c a1 _ rfl) (va_cwS 1 hts gX4_rooted_X4_isRoot rfl rfl rfl (by decide +kernel) ⟨Nat.le_of_ble_eq_true rfl, Nat.le_of_ble_eq_true rfl⟩) (kC_st _ _) hK hP rfl hl.1 rfl (Nat.le_of_ble_eq_true rfl) dX4_rooted_1 ⟨Nat.zero_le _, Nat.zero_le _⟩) hS (fun H locs hP hS => ?_)
  refine lv_if_eq (tgt := 19) hx hb dX4_rooted_4 (by decide) (fun e3 => ?_) (fun e3 => ?_)
  · have hM := it_p e3 hM
    refine lv_bipush (v := (-101)) hx hb dX4_rooted_19 (by decide) ?_
    exact W.iret hx hb hr (fun t ht hW => ⟨⟨_, _, rfl, ⟨pr1 hM, rfl⟩, hPt ht hP⟩, hS.F ht⟩) hS.2.2 dX4_rooted_21
  · have hM := it_n e3 hM
    refine lv_aload_n hx hb dX4_rooted_7 rfl (lv_at hl 0 rfl) ?_
    refine gget (v := .ref (ad 3)) hx hb hts i4 hown hK1 hP 0 rfl rfl 2 (by decide) f26 rfl rfl dX4_rooted_8 ?_
    refine gget (v := .ref (ad 14)) hx hb hts i1 hown hK1 hP 3 rfl rfl 0 (by decide) f130 rfl rfl dX4_rooted_11 ?_
    refine lv_iload_n hx hb dX4_rooted_14 rfl (lv_at hl 1 rfl) ?_
    obtain ⟨h2, x1, hx1, hM⟩ := ldA_some sm_ne hM
    refine gald hx hb hK1 hP 14 9 rfl rfl h2 hx1 dX4_rooted_15 ?_
    refine lv_goto (tgt := 21) hx hb dX4_rooted_16 (by decide) ?_
    exact W.iret hx hb hr (fun t ht hW => ⟨⟨_, _, rfl, ⟨pr1 hM, rfl⟩, hPt ht hP⟩, hS.F ht⟩) hS.2.2 dX4_rooted_21
set_option maxHeartbeats 4000000 in
set_option maxRecDepth 100000 in
theorem kX4_push (l : Launch) (dC : Nat → ClassId) (dI : Nat → Nat → Nat) (ad : Nat → Nat) (cA : Nat → ClassId) (hap : apart 17 ad) (sz : Nat) (c : HS) (a1 : Int32) (r0 : Int32) (c9 : HS) (hM : pX4_push c a1 = some (r0, c9)) : Met l yX4_push wsX4_push ({ frames := 0, cells := 0, slots := 0, locals := 0 }) (gP (dC, dI) (wC ad cA) (kC (dC, dI) cA) c sz [.ref (ad 0), .int a1]) (gQi (dC, dI) (wC ad cA) (fA 17 ad sz) r0 c9) 0 0 (fA 17 ad sz) := by
  refine Met.ofW (cc := cX4_push) (maxL := 2) (ret := (some .int)) (by decide) rfl ?_
  intro p e s m args below meth cd s₁ B hml hv
  obtain ⟨rfl, rfl, hP, hK⟩ := hv
  have hx := B.exec
  have hb := B.bytes
  have hr := B.returns
  have hts := atoms_spec (ws := wsX4_push) B.pre
  have hown : s.vm.findClass RX4 = some m.cls := findClass_of_methodNamed B.named
  have hlocks := B.notSynchronized
  have hK1 : va_K (dC, dI) vwCl (tC cA) s := hK.1
  have hD : ∀ c, va_D (fA 17 ad s.heap.size) (wC ad cA c) := fun c => dC_ok hap cA c _
  have hS : va_S (fA 17 ad s.heap.size) s.heap s.heap [] := va_S.rf
  have i4 : ∀ w ∈ u_ws RX4 TX4 7, w ∈ wsX4_push := by decide +kernel
  have i1 : ∀ w ∈ u_ws RX1 TX1 3, w ∈ wsX4_push := by decide +kernel
  have f26 := hts (.fieldLink RX4 26 "StickyHeap" "holders" "LStickyHeap$Holders;") (by decide +kernel)
  have f133 := hts (.fieldLink RX4 133 "StickyHeap$Holders" "height" "I") (by decide +kernel)
  have f136 := hts (.fieldLink RX4 136 "StickyHeap$Holders" "stack" "[I") (by decide +kernel)
  have hl := lv_entry [.ref (ad 0), .int a1] (n := 2) (Nat.le_of_ble_eq_true rfl)
  rw [lg_entry_eq]
  generalize (lg_sl [.ref (ad 0), .int a1] ++ List.replicate (2 - (lg_sl [.ref (ad 0), .int a1]).length) Slot.unset).toArray = ls at hl ⊢
  have hl : lv_has ls 2 [(0, .ref (ad 0)), (1, .int a1)] := hl
  have hP : va_P (dC, dI) vwCl (wC ad cA c) s.heap := hP
  unfold pX4_push at hM
  refine lv_aload_n hx hb dX4_push_0 rfl (lv_at hl 0 rfl) ?_
  refine gget (v := .ref (ad 3)) hx hb hts i4 hown hK1 hP 0 rfl rfl 2 (by decide) f26 rfl rfl dX4_push_1 ?_
  refine gget (v := .int (c.1 0 5)) hx hb hts i1 hown hK1 hP 3 rfl rfl 2 (by decide) f133 rfl rfl dX4_push_4 ?_
  refine lv_bipush (v := 24) hx hb dX4_push_7 (by decide) ?_
  refine lv_icmp_lt (tgt := 15) hx hb dX4_push_9 (by decide) (fun e4 => ?_) (fun e4 => ?_)
  · have hM := it_p e4 hM
    refine lv_aload_n hx hb dX4_push_15 rfl (lv_at hl 0 rfl) ?_
    refine gget (v := .ref (ad 3)) hx hb hts i4 hown hK1 hP 0 rfl rfl 2 (by decide) f26 rfl rfl dX4_push_16 ?_
    refine gget (v := .ref (ad 15)) hx hb hts i1 hown hK1 hP 3 rfl rfl 1 (by decide) f136 rfl rfl dX4_push_19 ?_
    refine lv_aload_n hx hb dX4_push_22 rfl (lv_at hl 0 rfl) ?_
    refine gget (v := .ref (ad 3)) hx hb hts i4 hown hK1 hP 0 rfl rfl 2 (by decide) f26 rfl rfl dX4_push_23 ?_
    refine gget (v := .int (c.1 0 5)) hx hb hts i1 hown hK1 hP 3 rfl rfl 2 (by decide) f133 rfl rfl dX4_push_26 ?_
    refine lv_iload_n hx hb dX4_push_29 rfl (lv_at hl 1 rfl) ?_
    obtain ⟨h2, c1, hc1, hM⟩ := stA_some sm_ne hM
    refine gast (w := wC ad cA) (c := c) (c1 := c1) hx hb hK1 hP (hD c) hS 15 10 rfl rfl h2 (by rw [hc1]; rfl) dX4_push_30 (fun H locs hP hS => ?_)
    refine lv_aload_n hx hb dX4_push_31 rfl (lv_at hl 0 rfl) ?_
    refine gget (v := .ref (ad 3)) hx hb hts i4 hown hK1 hP 0 rfl rfl 2 (by decide) f26 rfl rfl dX4_push_32 ?_
    refine lv_dup hx hb dX4_push_35 rfl ?_
    refine gget (v := .int (c1.1 0 5)) hx hb hts i1 hown hK1 hP 3 rfl rfl 2 (by decide) f133 rfl rfl dX4_push_36 ?_
    refine lv_iconst (v := 1) hx hb dX4_push_39 (by decide) ?_
    refine lv_iadd hx hb dX4_push_40 ?_
    obtain ⟨c3, hc3, hM⟩ := pfA_some hM
    refine gput (w := wC ad cA) (c := c1) (c1 := c3) (v := .int ((c1.1 0 5) + 1)) hx hb hts i1 tyX1 tyX1_ok nmX1 hown hK1 hP (hD c1) hS 3 rfl rfl 2 (by decide) f133 rfl rfl rfl rfl (Nat.le_of_ble_eq_true rfl) (by rw [hc3]; rfl) dX4_push_41 (fun H locs hP hS => ?_)
    refine lv_aload_n hx hb dX4_push_44 rfl (lv_at hl 0 rfl) ?_
    refine gget (v := .ref (ad 3)) hx hb hts i4 hown hK1 hP 0 rfl rfl 2 (by decide) f26 rfl rfl dX4_push_45 ?_
    refine gget (v := .int (c3.1 0 5)) hx hb hts i1 hown hK1 hP 3 rfl rfl 2 (by decide) f133 rfl rfl dX4_push_48 ?_
    exact W.iret hx hb hr (fun t ht hW => ⟨⟨_, _, rfl, pr2 hM, hPt ht hP⟩, hS.F ht⟩) hS.2.2 dX4_push_51
  · have hM := it_n e4 hM
    refine lv_bipush (v := (-104)) hx hb dX4_push_12 (by decide) ?_
    exact W.iret hx hb hr (fun t ht hW => ⟨⟨_, _, rfl, pr2 hM, hPt ht hP⟩, hS.F ht⟩) hS.2.2 dX4_push_14
set_option maxHeartbeats 4000000 in
set_option maxRecDepth 100000 in
theorem kX4_pop (l : Launch) (dC : Nat → ClassId) (dI : Nat → Nat → Nat) (ad : Nat → Nat) (cA : Nat → ClassId) (hap : apart 17 ad) (sz : Nat) (c : HS) (r0 : Int32) (c9 : HS) (hM : pX4_pop c = some (r0, c9)) : Met l yX4_pop wsX4_pop ({ frames := 0, cells := 0, slots := 0, locals := 0 }) (gP (dC, dI) (wC ad cA) (kC (dC, dI) cA) c sz [.ref (ad 0)]) (gQi (dC, dI) (wC ad cA) (fA 17 ad sz) r0 c9) 0 0 (fA 17 ad sz) := by
  refine Met.ofW (cc := cX4_pop) (maxL := 1) (ret := (some .int)) (by decide) rfl ?_
  intro p e s m args below meth cd s₁ B hml hv
  obtain ⟨rfl, rfl, hP, hK⟩ := hv
  have hx := B.exec
  have hb := B.bytes
  have hr := B.returns
  have hts := atoms_spec (ws := wsX4_pop) B.pre
  have hown : s.vm.findClass RX4 = some m.cls := findClass_of_methodNamed B.named
  have hlocks := B.notSynchronized
  have hK1 : va_K (dC, dI) vwCl (tC cA) s := hK.1
  have hD : ∀ c, va_D (fA 17 ad s.heap.size) (wC ad cA c) := fun c => dC_ok hap cA c _
  have hS : va_S (fA 17 ad s.heap.size) s.heap s.heap [] := va_S.rf
  have i4 : ∀ w ∈ u_ws RX4 TX4 7, w ∈ wsX4_pop := by decide +kernel
  have i1 : ∀ w ∈ u_ws RX1 TX1 3, w ∈ wsX4_pop := by decide +kernel
  have f26 := hts (.fieldLink RX4 26 "StickyHeap" "holders" "LStickyHeap$Holders;") (by decide +kernel)
  have f56 := hts (.fieldLink RX4 56 "StickyHeap" "lastSeen" "I") (by decide +kernel)
  have f133 := hts (.fieldLink RX4 133 "StickyHeap$Holders" "height" "I") (by decide +kernel)
  have f136 := hts (.fieldLink RX4 136 "StickyHeap$Holders" "stack" "[I") (by decide +kernel)
  have hl := lv_entry [.ref (ad 0)] (n := 1) (Nat.le_of_ble_eq_true rfl)
  rw [lg_entry_eq]
  generalize (lg_sl [.ref (ad 0)] ++ List.replicate (1 - (lg_sl [.ref (ad 0)]).length) Slot.unset).toArray = ls at hl ⊢
  have hl : lv_has ls 1 [(0, .ref (ad 0))] := hl
  have hP : va_P (dC, dI) vwCl (wC ad cA c) s.heap := hP
  unfold pX4_pop at hM
  refine lv_aload_n hx hb dX4_pop_0 rfl (lv_at hl 0 rfl) ?_
  refine gget (v := .ref (ad 3)) hx hb hts i4 hown hK1 hP 0 rfl rfl 2 (by decide) f26 rfl rfl dX4_pop_1 ?_
  refine gget (v := .int (c.1 0 5)) hx hb hts i1 hown hK1 hP 3 rfl rfl 2 (by decide) f133 rfl rfl dX4_pop_4 ?_
  refine lv_if_gt (tgt := 13) hx hb dX4_pop_7 (by decide) (fun e5 => ?_) (fun e5 => ?_)
  · have hM := it_p e5 hM
    refine lv_aload_n hx hb dX4_pop_13 rfl (lv_at hl 0 rfl) ?_
    refine gget (v := .ref (ad 3)) hx hb hts i4 hown hK1 hP 0 rfl rfl 2 (by decide) f26 rfl rfl dX4_pop_14 ?_
    refine lv_dup hx hb dX4_pop_17 rfl ?_
    refine gget (v := .int (c.1 0 5)) hx hb hts i1 hown hK1 hP 3 rfl rfl 2 (by decide) f133 rfl rfl dX4_pop_18 ?_
    refine lv_iconst (v := 1) hx hb dX4_pop_21 (by decide) ?_
    refine lv_isub hx hb dX4_pop_22 ?_
    obtain ⟨c1, hc1, hM⟩ := pfA_some hM
    refine gput (w := wC ad cA) (c := c) (c1 := c1) (v := .int ((c.1 0 5) - 1)) hx hb hts i1 tyX1 tyX1_ok nmX1 hown hK1 hP (hD c) hS 3 rfl rfl 2 (by decide) f133 rfl rfl rfl rfl (Nat.le_of_ble_eq_true rfl) (by rw [hc1]; rfl) dX4_pop_23 (fun H locs hP hS => ?_)
    refine lv_aload_n hx hb dX4_pop_26 rfl (lv_at hl 0 rfl) ?_
    refine lv_aload_n hx hb dX4_pop_27 rfl (lv_at hl 0 rfl) ?_
    refine gget (v := .ref (ad 3)) hx hb hts i4 hown hK1 hP 0 rfl rfl 2 (by decide) f26 rfl rfl dX4_pop_28 ?_
    refine gget (v := .ref (ad 15)) hx hb hts i1 hown hK1 hP 3 rfl rfl 1 (by decide) f136 rfl rfl dX4_pop_31 ?_
    refine lv_aload_n hx hb dX4_pop_34 rfl (lv_at hl 0 rfl) ?_
    refine gget (v := .ref (ad 3)) hx hb hts i4 hown hK1 hP 0 rfl rfl 2 (by decide) f26 rfl rfl dX4_pop_35 ?_
    refine gget (v := .int (c1.1 0 5)) hx hb hts i1 hown hK1 hP 3 rfl rfl 2 (by decide) f133 rfl rfl dX4_pop_38 ?_
    obtain ⟨h3, x2, hx2, hM⟩ := ldA_some sm_ne hM
    refine gald hx hb hK1 hP 15 10 rfl rfl h3 hx2 dX4_pop_41 ?_
    obtain ⟨c4, hc4, hM⟩ := pfA_some hM
    refine gput (w := wC ad cA) (c := c1) (c1 := c4) (v := .int x2) hx hb hts i4 tyX4 tyX4_ok nmX4 hown hK1 hP (hD c1) hS 0 rfl rfl 5 (by decide) f56 rfl rfl rfl rfl (Nat.le_of_ble_eq_true rfl) (by rw [hc4]; rfl) dX4_pop_42 (fun H locs hP hS => ?_)
    refine lv_aload_n hx hb dX4_pop_45 rfl (lv_at hl 0 rfl) ?_
    refine gget (v := .ref (ad 3)) hx hb hts i4 hown hK1 hP 0 rfl rfl 2 (by decide) f26 rfl rfl dX4_pop_46 ?_
    refine gget (v := .int (c4.1 0 5)) hx hb hts i1 hown hK1 hP 3 rfl rfl 2 (by decide) f133 rfl rfl dX4_pop_49 ?_
    exact W.iret hx hb hr (fun t ht hW => ⟨⟨_, _, rfl, pr2 hM, hPt ht hP⟩, hS.F ht⟩) hS.2.2 dX4_pop_52
  · have hM := it_n e5 hM
    refine lv_bipush (v := (-103)) hx hb dX4_pop_10 (by decide) ?_
    exact W.iret hx hb hr (fun t ht hW => ⟨⟨_, _, rfl, pr2 hM, hPt ht hP⟩, hS.F ht⟩) hS.2.2 dX4_pop_12
set_option maxHeartbeats 4000000 in
set_option maxRecDepth 100000 in
theorem kX4_top (l : Launch) (dC : Nat → ClassId) (dI : Nat → Nat → Nat) (ad : Nat → Nat) (cA : Nat → ClassId) (hap : apart 17 ad) (sz : Nat) (c : HS) (a1 : Int32) (r0 : Int32) (c9 : HS) (hM : pX4_top c a1 = some (r0, c9)) : Met l yX4_top wsX4_top ({ frames := 0, cells := 0, slots := 0, locals := 0 }) (gP (dC, dI) (wC ad cA) (kC (dC, dI) cA) c sz [.ref (ad 0), .int a1]) (gQi (dC, dI) (wC ad cA) (fA 17 ad sz) r0 c9) 0 0 (fA 17 ad sz) := by
  refine Met.ofW (cc := cX4_top) (maxL := 2) (ret := (some .int)) (by decide) rfl ?_
  intro p e s m args below meth cd s₁ B hml hv
  obtain ⟨rfl, rfl, hP, hK⟩ := hv
  have hx := B.exec
  have hb := B.bytes
  have hr := B.returns
  have hts := atoms_spec (ws := wsX4_top) B.pre
  have hown : s.vm.findClass RX4 = some m.cls := findClass_of_methodNamed B.named
  have hlocks := B.notSynchronized
  have hK1 : va_K (dC, dI) vwCl (tC cA) s := hK.1
  have hD : ∀ c, va_D (fA 17 ad s.heap.size) (wC ad cA c) := fun c => dC_ok hap cA c _
  have hS : va_S (fA 17 ad s.heap.size) s.heap s.heap [] := va_S.rf
  have i4 : ∀ w ∈ u_ws RX4 TX4 7, w ∈ wsX4_top := by decide +kernel
  have i1 : ∀ w ∈ u_ws RX1 TX1 3, w ∈ wsX4_top := by decide +kernel
  have f26 := hts (.fieldLink RX4 26 "StickyHeap" "holders" "LStickyHeap$Holders;") (by decide +kernel)
  have f56 := hts (.fieldLink RX4 56 "StickyHeap" "lastSeen" "I") (by decide +kernel)
  have f133 := hts (.fieldLink RX4 133 "StickyHeap$Holders" "height" "I") (by decide +kernel)
  have f136 := hts (.fieldLink RX4 136 "StickyHeap$Holders" "stack" "[I") (by decide +kernel)
  have hl := lv_entry [.ref (ad 0), .int a1] (n := 2) (Nat.le_of_ble_eq_true rfl)
  rw [lg_entry_eq]
  generalize (lg_sl [.ref (ad 0), .int a1] ++ List.replicate (2 - (lg_sl [.ref (ad 0), .int a1]).length) Slot.unset).toArray = ls at hl ⊢
  have hl : lv_has ls 2 [(0, .ref (ad 0)), (1, .int a1)] := hl
  have hP : va_P (dC, dI) vwCl (wC ad cA c) s.heap := hP
  unfold pX4_top at hM
  refine lv_iload_n hx hb dX4_top_0 rfl (lv_at hl 1 rfl) ?_
  refine lv_if_lt (tgt := 15) hx hb dX4_top_1 (by decide) (fun e5 => ?_) (fun e5 => ?_)
  · have hM := it_p e5 hM
    refine lv_iconst (v := 0) hx hb dX4_top_15 (by decide) ?_
    exact W.iret hx hb hr (fun t ht hW => ⟨⟨_, _, rfl, pr2 hM, hPt ht hP⟩, hS.F ht⟩) hS.2.2 dX4_top_16
  · have hM := it_n e5 hM
    refine lv_iload_n hx hb dX4_top_4 rfl (lv_at hl 1 rfl) ?_
    refine lv_aload_n hx hb dX4_top_5 rfl (lv_at hl 0 rfl) ?_
    refine gget (v := .ref (ad 3)) hx hb hts i4 hown hK1 hP 0 rfl rfl 2 (by decide) f26 rfl rfl dX4_top_6 ?_
    refine gget (v := .int (c.1 0 5)) hx hb hts i1 hown hK1 hP 3 rfl rfl 2 (by decide) f133 rfl rfl dX4_top_9 ?_
    refine lv_icmp_lt (tgt := 17) hx hb dX4_top_12 (by decide) (fun e4 => ?_) (fun e4 => ?_)
    · have hM := it_p e4 hM
      refine lv_aload_n hx hb dX4_top_17 rfl (lv_at hl 0 rfl) ?_
      refine lv_aload_n hx hb dX4_top_18 rfl (lv_at hl 0 rfl) ?_
      refine gget (v := .ref (ad 3)) hx hb hts i4 hown hK1 hP 0 rfl rfl 2 (by decide) f26 rfl rfl dX4_top_19 ?_
      refine gget (v := .ref (ad 15)) hx hb hts i1 hown hK1 hP 3 rfl rfl 1 (by decide) f136 rfl rfl dX4_top_22 ?_
      refine lv_aload_n hx hb dX4_top_25 rfl (lv_at hl 0 rfl) ?_
      refine gget (v := .ref (ad 3)) hx hb hts i4 hown hK1 hP 0 rfl rfl 2 (by decide) f26 rfl rfl dX4_top_26 ?_
      refine gget (v := .int (c.1 0 5)) hx hb hts i1 hown hK1 hP 3 rfl rfl 2 (by decide) f133 rfl rfl dX4_top_29 ?_
      refine lv_iconst (v := 1) hx hb dX4_top_32 (by decide) ?_
      refine lv_isub hx hb dX4_top_33 ?_
      refine lv_iload_n hx hb dX4_top_34 rfl (lv_at hl 1 rfl) ?_
      refine lv_isub hx hb dX4_top_35 ?_
      obtain ⟨h2, x1, hx1, hM⟩ := ldA_some sm_ne hM
      refine gald hx hb hK1 hP 15 10 rfl rfl h2 hx1 dX4_top_36 ?_
      obtain ⟨c3, hc3, hM⟩ := pfA_some hM
      refine gput (w := wC ad cA) (c := c) (c1 := c3) (v := .int x1) hx hb hts i4 tyX4 tyX4_ok nmX4 hown hK1 hP (hD c) hS 0 rfl rfl 5 (by decide) f56 rfl rfl rfl rfl (Nat.le_of_ble_eq_true rfl) (by rw [hc3]; rfl) dX4_top_37 (fun H locs hP hS => ?_)
      refine lv_iconst (v := 1) hx hb dX4_top_40 (by decide) ?_
      exact W.iret hx hb hr (fun t ht hW => ⟨⟨_, _, rfl, pr2 hM, hPt ht hP⟩, hS.F ht⟩) hS.2.2 dX4_top_41
    · have hM := it_n e4 hM
      refine lv_iconst (v := 0) hx hb dX4_top_15 (by decide) ?_
      exact W.iret hx hb hr (fun t ht hW => ⟨⟨_, _, rfl, pr2 hM, hPt ht hP⟩, hS.F ht⟩) hS.2.2 dX4_top_16
set_option maxHeartbeats 4000000 in
set_option maxRecDepth 100000 in
theorem kX4_minor (l : Launch) (dC : Nat → ClassId) (dI : Nat → Nat → Nat) (ad : Nat → Nat) (cA : Nat → ClassId) (hap : apart 17 ad) (sz : Nat) (c : HS) (r0 : Int32) (c9 : HS) (hM : pX4_minor c = some (r0, c9)) : Met l yX4_minor wsX4_minor ({ frames := 5, cells := 0, slots := 0, locals := 106 }) (gP (dC, dI) (wC ad cA) (kC (dC, dI) cA) c sz [.ref (ad 0)]) (gQi (dC, dI) (wC ad cA) (fA 17 ad sz) r0 c9) 0 0 (fA 17 ad sz) := by
  refine Met.ofW (cc := cX4_minor) (maxL := 1) (ret := (some .int)) (by decide) rfl ?_
  intro p e s m args below meth cd s₁ B hml hv
  obtain ⟨rfl, rfl, hP, hK⟩ := hv
  have hx := B.exec
  have hb := B.bytes
  have hr := B.returns
  have hts := atoms_spec (ws := wsX4_minor) B.pre
  have hown : s.vm.findClass RX4 = some m.cls := findClass_of_methodNamed B.named
  have hlocks := B.notSynchronized
  have hK1 : va_K (dC, dI) vwCl (tC cA) s := hK.1
  have hD : ∀ c, va_D (fA 17 ad s.heap.size) (wC ad cA c) := fun c => dC_ok hap cA c _
  have hS : va_S (fA 17 ad s.heap.size) s.heap s.heap [] := va_S.rf
  have i4 : ∀ w ∈ u_ws RX4 TX4 7, w ∈ wsX4_minor := by decide +kernel
  have f35 := hts (.fieldLink RX4 35 "StickyHeap" "collector" "LStickyHeap$Collector;") (by decide +kernel)
  have hl := lv_entry [.ref (ad 0)] (n := 1) (Nat.le_of_ble_eq_true rfl)
  rw [lg_entry_eq]
  generalize (lg_sl [.ref (ad 0)] ++ List.replicate (1 - (lg_sl [.ref (ad 0)]).length) Slot.unset).toArray = ls at hl ⊢
  have hl : lv_has ls 1 [(0, .ref (ad 0))] := hl
  have hP : va_P (dC, dI) vwCl (wC ad cA c) s.heap := hP
  unfold pX4_minor at hM
  refine lv_aload_n hx hb dX4_minor_0 rfl (lv_at hl 0 rfl) ?_
  refine gget (v := .ref (ad 4)) hx hb hts i4 hown hK1 hP 0 rfl rfl 3 (by decide) f35 rfl rfl dX4_minor_1 ?_
  obtain ⟨r3, c2, h1, hM⟩ := bd2_some sm_ne hM
  refine gCi (gV (As := []) (rest := []) ⟨hx, hb, hml, hown, hts⟩ (kX0_collectYoung l dC dI ad cA hap _ c _ _ h1) (cwV 0 hts gX4_minor_X0_collectYoung rfl rfl rfl (by decide +kernel) ⟨Nat.le_of_ble_eq_true rfl, Nat.le_of_ble_eq_true rfl⟩) (kC_st _ _) hK hP (va_recv hK1 hP (ci := 0) (q0 := 4) rfl rfl) rfl hl.1 rfl (Nat.le_of_ble_eq_true rfl) dX4_minor_4 ⟨Nat.zero_le _, Nat.zero_le _⟩) hS (fun H locs hP hS => ?_)
  exact W.iret hx hb hr (fun t ht hW => ⟨⟨_, _, rfl, pr2 hM, hPt ht hP⟩, hS.F ht⟩) hS.2.2 dX4_minor_7
set_option maxHeartbeats 4000000 in
set_option maxRecDepth 100000 in
theorem kX4_full (l : Launch) (dC : Nat → ClassId) (dI : Nat → Nat → Nat) (ad : Nat → Nat) (cA : Nat → ClassId) (hap : apart 17 ad) (sz : Nat) (c : HS) (r0 : Int32) (c9 : HS) (hM : pX4_full c = some (r0, c9)) : Met l yX4_full wsX4_full ({ frames := 5, cells := 0, slots := 0, locals := 106 }) (gP (dC, dI) (wC ad cA) (kC (dC, dI) cA) c sz [.ref (ad 0)]) (gQi (dC, dI) (wC ad cA) (fA 17 ad sz) r0 c9) 0 0 (fA 17 ad sz) := by
  refine Met.ofW (cc := cX4_full) (maxL := 1) (ret := (some .int)) (by decide) rfl ?_
  intro p e s m args below meth cd s₁ B hml hv
  obtain ⟨rfl, rfl, hP, hK⟩ := hv
  have hx := B.exec
  have hb := B.bytes
  have hr := B.returns
  have hts := atoms_spec (ws := wsX4_full) B.pre
  have hown : s.vm.findClass RX4 = some m.cls := findClass_of_methodNamed B.named
  have hlocks := B.notSynchronized
  have hK1 : va_K (dC, dI) vwCl (tC cA) s := hK.1
  have hD : ∀ c, va_D (fA 17 ad s.heap.size) (wC ad cA c) := fun c => dC_ok hap cA c _
  have hS : va_S (fA 17 ad s.heap.size) s.heap s.heap [] := va_S.rf
  have i4 : ∀ w ∈ u_ws RX4 TX4 7, w ∈ wsX4_full := by decide +kernel
  have f35 := hts (.fieldLink RX4 35 "StickyHeap" "collector" "LStickyHeap$Collector;") (by decide +kernel)
  have hl := lv_entry [.ref (ad 0)] (n := 1) (Nat.le_of_ble_eq_true rfl)
  rw [lg_entry_eq]
  generalize (lg_sl [.ref (ad 0)] ++ List.replicate (1 - (lg_sl [.ref (ad 0)]).length) Slot.unset).toArray = ls at hl ⊢
  have hl : lv_has ls 1 [(0, .ref (ad 0))] := hl
  have hP : va_P (dC, dI) vwCl (wC ad cA c) s.heap := hP
  unfold pX4_full at hM
  refine lv_aload_n hx hb dX4_full_0 rfl (lv_at hl 0 rfl) ?_
  refine gget (v := .ref (ad 4)) hx hb hts i4 hown hK1 hP 0 rfl rfl 3 (by decide) f35 rfl rfl dX4_full_1 ?_
  obtain ⟨r3, c2, h1, hM⟩ := bd2_some sm_ne hM
  refine gCi (gV (As := []) (rest := []) ⟨hx, hb, hml, hown, hts⟩ (kX0_collectAll l dC dI ad cA hap _ c _ _ h1) (cwV 0 hts gX4_full_X0_collectAll rfl rfl rfl (by decide +kernel) ⟨Nat.le_of_ble_eq_true rfl, Nat.le_of_ble_eq_true rfl⟩) (kC_st _ _) hK hP (va_recv hK1 hP (ci := 0) (q0 := 4) rfl rfl) rfl hl.1 rfl (Nat.le_of_ble_eq_true rfl) dX4_full_4 ⟨Nat.zero_le _, Nat.zero_le _⟩) hS (fun H locs hP hS => ?_)
  exact W.iret hx hb hr (fun t ht hW => ⟨⟨_, _, rfl, pr2 hM, hPt ht hP⟩, hS.F ht⟩) hS.2.2 dX4_full_7
set_option maxHeartbeats 4000000 in
set_option maxRecDepth 100000 in
theorem kX4_logged (l : Launch) (dC : Nat → ClassId) (dI : Nat → Nat → Nat) (ad : Nat → Nat) (cA : Nat → ClassId) (hap : apart 17 ad) (sz : Nat) (c : HS) (a1 : Int32) (r0 : Int32) (hM : pX4_logged c a1 = some r0) : Met l yX4_logged wsX4_logged ({ frames := 0, cells := 0, slots := 0, locals := 0 }) (gP (dC, dI) (wC ad cA) (kC (dC, dI) cA) c sz [.ref (ad 0), .int a1]) (gQi (dC, dI) (wC ad cA) (fA 17 ad sz) r0 c) 0 0 (fA 17 ad sz) := by
  refine Met.ofW (cc := cX4_logged) (maxL := 2) (ret := (some .int)) (by decide) rfl ?_
  intro p e s m args below meth cd s₁ B hml hv
  obtain ⟨rfl, rfl, hP, hK⟩ := hv
  have hx := B.exec
  have hb := B.bytes
  have hr := B.returns
  have hts := atoms_spec (ws := wsX4_logged) B.pre
  have hown : s.vm.findClass RX4 = some m.cls := findClass_of_methodNamed B.named
  have hlocks := B.notSynchronized
  have hK1 : va_K (dC, dI) vwCl (tC cA) s := hK.1
  have hD : ∀ c, va_D (fA 17 ad s.heap.size) (wC ad cA c) := fun c => dC_ok hap cA c _
  have hS : va_S (fA 17 ad s.heap.size) s.heap s.heap [] := va_S.rf
  have i4 : ∀ w ∈ u_ws RX4 TX4 7, w ∈ wsX4_logged := by decide +kernel
  have i2 : ∀ w ∈ u_ws RX2 TX2 5, w ∈ wsX4_logged := by decide +kernel
  have f19 := hts (.fieldLink RX4 19 "StickyHeap" "memory" "LStickyHeap$Memory;") (by decide +kernel)
  have f146 := hts (.fieldLink RX4 146 "StickyHeap$Memory" "size" "I") (by decide +kernel)
  have f149 := hts (.fieldLink RX4 149 "StickyHeap$Memory" "log" "[I") (by decide +kernel)
  have hl := lv_entry [.ref (ad 0), .int a1] (n := 2) (Nat.le_of_ble_eq_true rfl)
  rw [lg_entry_eq]
  generalize (lg_sl [.ref (ad 0), .int a1] ++ List.replicate (2 - (lg_sl [.ref (ad 0), .int a1]).length) Slot.unset).toArray = ls at hl ⊢
  have hl : lv_has ls 2 [(0, .ref (ad 0)), (1, .int a1)] := hl
  have hP : va_P (dC, dI) vwCl (wC ad cA c) s.heap := hP
  unfold pX4_logged at hM
  refine lv_iload_n hx hb dX4_logged_0 rfl (lv_at hl 1 rfl) ?_
  refine lv_if_lt (tgt := 27) hx hb dX4_logged_1 (by decide) (fun e4 => ?_) (fun e4 => ?_)
  · have hM := it_p e4 hM
    refine lv_iconst (v := (-1)) hx hb dX4_logged_27 (by decide) ?_
    exact W.iret hx hb hr (fun t ht hW => ⟨⟨_, _, rfl, ⟨pr1 hM, rfl⟩, hPt ht hP⟩, hS.F ht⟩) hS.2.2 dX4_logged_28
  · have hM := it_n e4 hM
    refine lv_iload_n hx hb dX4_logged_4 rfl (lv_at hl 1 rfl) ?_
    refine lv_aload_n hx hb dX4_logged_5 rfl (lv_at hl 0 rfl) ?_
    refine gget (v := .ref (ad 2)) hx hb hts i4 hown hK1 hP 0 rfl rfl 1 (by decide) f19 rfl rfl dX4_logged_6 ?_
    refine gget (v := .int (c.1 0 3)) hx hb hts i2 hown hK1 hP 2 rfl rfl 2 (by decide) f146 rfl rfl dX4_logged_9 ?_
    refine lv_icmp_ge (tgt := 27) hx hb dX4_logged_12 (by decide) (fun e3 => ?_) (fun e3 => ?_)
    · have hM := it_p e3 hM
      refine lv_iconst (v := (-1)) hx hb dX4_logged_27 (by decide) ?_
      exact W.iret hx hb hr (fun t ht hW => ⟨⟨_, _, rfl, ⟨pr1 hM, rfl⟩, hPt ht hP⟩, hS.F ht⟩) hS.2.2 dX4_logged_28
    · have hM := it_n e3 hM
      refine lv_aload_n hx hb dX4_logged_15 rfl (lv_at hl 0 rfl) ?_
      refine gget (v := .ref (ad 2)) hx hb hts i4 hown hK1 hP 0 rfl rfl 1 (by decide) f19 rfl rfl dX4_logged_16 ?_
      refine gget (v := .ref (ad 12)) hx hb hts i2 hown hK1 hP 2 rfl rfl 1 (by decide) f149 rfl rfl dX4_logged_19 ?_
      refine lv_iload_n hx hb dX4_logged_22 rfl (lv_at hl 1 rfl) ?_
      obtain ⟨h2, x1, hx1, hM⟩ := ldA_some sm_ne hM
      refine gald hx hb hK1 hP 12 7 rfl rfl h2 hx1 dX4_logged_23 ?_
      refine lv_goto (tgt := 28) hx hb dX4_logged_24 (by decide) ?_
      exact W.iret hx hb hr (fun t ht hW => ⟨⟨_, _, rfl, ⟨pr1 hM, rfl⟩, hPt ht hP⟩, hS.F ht⟩) hS.2.2 dX4_logged_28
set_option maxHeartbeats 4000000 in
set_option maxRecDepth 100000 in
theorem kX4_block (l : Launch) (dC : Nat → ClassId) (dI : Nat → Nat → Nat) (ad : Nat → Nat) (cA : Nat → ClassId) (hap : apart 17 ad) (sz : Nat) (c : HS) (a1 : Int32) (a2 : Int32) (r0 : Int32) (hM : pX4_block c a1 a2 = some r0) : Met l yX4_block wsX4_block ({ frames := 1, cells := 0, slots := 0, locals := 24 }) (gP (dC, dI) (wC ad cA) (kC (dC, dI) cA) c sz [.ref (ad 0), .int a1, .int a2]) (gQi (dC, dI) (wC ad cA) (fA 17 ad sz) r0 c) 0 0 (fA 17 ad sz) := by
  refine Met.ofW (cc := cX4_block) (maxL := 3) (ret := (some .int)) (by decide) rfl ?_
  intro p e s m args below meth cd s₁ B hml hv
  obtain ⟨rfl, rfl, hP, hK⟩ := hv
  have hx := B.exec
  have hb := B.bytes
  have hr := B.returns
  have hts := atoms_spec (ws := wsX4_block) B.pre
  have hown : s.vm.findClass RX4 = some m.cls := findClass_of_methodNamed B.named
  have hlocks := B.notSynchronized
  have hK1 : va_K (dC, dI) vwCl (tC cA) s := hK.1
  have hD : ∀ c, va_D (fA 17 ad s.heap.size) (wC ad cA c) := fun c => dC_ok hap cA c _
  have hS : va_S (fA 17 ad s.heap.size) s.heap s.heap [] := va_S.rf
  have i4 : ∀ w ∈ u_ws RX4 TX4 7, w ∈ wsX4_block := by decide +kernel
  have i2 : ∀ w ∈ u_ws RX2 TX2 5, w ∈ wsX4_block := by decide +kernel
  have i3 : ∀ w ∈ u_ws RX3 TX3 9, w ∈ wsX4_block := by decide +kernel
  have f12 := hts (.fieldLink RX4 12 "StickyHeap" "space" "LStickyHeap$Space;") (by decide +kernel)
  have f19 := hts (.fieldLink RX4 19 "StickyHeap" "memory" "LStickyHeap$Memory;") (by decide +kernel)
  have f152 := hts (.fieldLink RX4 152 "StickyHeap$Space" "blocks" "I") (by decide +kernel)
  have f155 := hts (.fieldLink RX4 155 "StickyHeap$Space" "sort" "[I") (by decide +kernel)
  have f158 := hts (.fieldLink RX4 158 "StickyHeap$Space" "detail" "[I") (by decide +kernel)
  have f165 := hts (.fieldLink RX4 165 "StickyHeap$Memory" "dirty" "[I") (by decide +kernel)
  have f168 := hts (.fieldLink RX4 168 "StickyHeap$Space" "barred" "[I") (by decide +kernel)
  have hl := lv_entry [.ref (ad 0), .int a1, .int a2] (n := 3) (Nat.le_of_ble_eq_true rfl)
  rw [lg_entry_eq]
  generalize (lg_sl [.ref (ad 0), .int a1, .int a2] ++ List.replicate (3 - (lg_sl [.ref (ad 0), .int a1, .int a2]).length) Slot.unset).toArray = ls at hl ⊢
  have hl : lv_has ls 3 [(0, .ref (ad 0)), (1, .int a1), (2, .int a2)] := hl
  have hP : va_P (dC, dI) vwCl (wC ad cA c) s.heap := hP
  unfold pX4_block at hM
  refine lv_iload_n hx hb dX4_block_0 rfl (lv_at hl 1 rfl) ?_
  refine lv_if_lt (tgt := 15) hx hb dX4_block_1 (by decide) (fun e14 => ?_) (fun e14 => ?_)
  · have hM := it_p e14 hM
    refine lv_bipush (v := (-101)) hx hb dX4_block_15 (by decide) ?_
    exact W.iret hx hb hr (fun t ht hW => ⟨⟨_, _, rfl, ⟨pr1 hM, rfl⟩, hPt ht hP⟩, hS.F ht⟩) hS.2.2 dX4_block_17
  · have hM := it_n e14 hM
    refine lv_iload_n hx hb dX4_block_4 rfl (lv_at hl 1 rfl) ?_
    refine lv_aload_n hx hb dX4_block_5 rfl (lv_at hl 0 rfl) ?_
    refine gget (v := .ref (ad 1)) hx hb hts i4 hown hK1 hP 0 rfl rfl 0 (by decide) f12 rfl rfl dX4_block_6 ?_
    refine gget (v := .int (c.1 0 0)) hx hb hts i3 hown hK1 hP 1 rfl rfl 0 (by decide) f152 rfl rfl dX4_block_9 ?_
    refine lv_icmp_lt (tgt := 18) hx hb dX4_block_12 (by decide) (fun e13 => ?_) (fun e13 => ?_)
    · have hM := it_p e13 hM
      refine lv_iload_n hx hb dX4_block_18 rfl (lv_at hl 2 rfl) ?_
      by_cases e19_0 : a2 = 0
      · have hM := it_p e19_0 hM
        refine lv_tableIn (off := 37) (tgt := 56) hx hb dX4_block_19 (by rw [e19_0]; decide) (by rw [e19_0]; decide) (by rw [e19_0]; rfl) (by decide) ?_
        refine lv_aload_n hx hb dX4_block_56 rfl (lv_at hl 0 rfl) ?_
        refine gget (v := .ref (ad 1)) hx hb hts i4 hown hK1 hP 0 rfl rfl 0 (by decide) f12 rfl rfl dX4_block_57 ?_
        refine gget (v := .ref (ad 5)) hx hb hts i3 hown hK1 hP 1 rfl rfl 2 (by decide) f155 rfl rfl dX4_block_60 ?_
        refine lv_iload_n hx hb dX4_block_63 rfl (lv_at hl 1 rfl) ?_
        obtain ⟨h2, x1, hx1, hM⟩ := ldA_some sm_ne hM
        refine gald hx hb hK1 hP 5 0 rfl rfl h2 hx1 dX4_block_64 ?_
        exact W.iret hx hb hr (fun t ht hW => ⟨⟨_, _, rfl, ⟨pr1 hM, rfl⟩, hPt ht hP⟩, hS.F ht⟩) hS.2.2 dX4_block_65
      have hM := it_n e19_0 hM
      by_cases e19_1 : a2 = 1
      · have hM := it_p e19_1 hM
        refine lv_tableIn (off := 47) (tgt := 66) hx hb dX4_block_19 (by rw [e19_1]; decide) (by rw [e19_1]; decide) (by rw [e19_1]; rfl) (by decide) ?_
        refine lv_aload_n hx hb dX4_block_66 rfl (lv_at hl 0 rfl) ?_
        refine gget (v := .ref (ad 1)) hx hb hts i4 hown hK1 hP 0 rfl rfl 0 (by decide) f12 rfl rfl dX4_block_67 ?_
        refine gget (v := .ref (ad 6)) hx hb hts i3 hown hK1 hP 1 rfl rfl 3 (by decide) f158 rfl rfl dX4_block_70 ?_
        refine lv_iload_n hx hb dX4_block_73 rfl (lv_at hl 1 rfl) ?_
        obtain ⟨h4, x3, hx3, hM⟩ := ldA_some sm_ne hM
        refine gald hx hb hK1 hP 6 1 rfl rfl h4 hx3 dX4_block_74 ?_
        exact W.iret hx hb hr (fun t ht hW => ⟨⟨_, _, rfl, ⟨pr1 hM, rfl⟩, hPt ht hP⟩, hS.F ht⟩) hS.2.2 dX4_block_75
      have hM := it_n e19_1 hM
      by_cases e19_2 : a2 = 2
      · have hM := it_p e19_2 hM
        refine lv_tableIn (off := 57) (tgt := 76) hx hb dX4_block_19 (by rw [e19_2]; decide) (by rw [e19_2]; decide) (by rw [e19_2]; rfl) (by decide) ?_
        refine lv_aload_n hx hb dX4_block_76 rfl (lv_at hl 0 rfl) ?_
        refine gget (v := .ref (ad 1)) hx hb hts i4 hown hK1 hP 0 rfl rfl 0 (by decide) f12 rfl rfl dX4_block_77 ?_
        refine lv_iload_n hx hb dX4_block_80 rfl (lv_at hl 1 rfl) ?_
        refine lv_iconst (v := 1) hx hb dX4_block_81 (by decide) ?_
        obtain ⟨r6, h5, hM⟩ := bd1_some sm_ne hM
        refine gCi (gV (As := [.int a1, .int 1]) (rest := []) ⟨hx, hb, hml, hown, hts⟩ (kX3_thingsIn l dC dI ad cA hap _ c a1 1 _ h5) (cwV 2 hts gX4_block_X3_thingsIn rfl rfl rfl (by decide +kernel) ⟨Nat.le_of_ble_eq_true rfl, Nat.le_of_ble_eq_true rfl⟩) (kC_st _ _) hK hP (va_recv hK1 hP (ci := 3) (q0 := 1) rfl rfl) rfl hl.1 rfl (Nat.le_of_ble_eq_true rfl) dX4_block_82 ⟨Nat.zero_le _, Nat.zero_le _⟩) hS (fun H locs hP hS => ?_)
        exact W.iret hx hb hr (fun t ht hW => ⟨⟨_, _, rfl, ⟨pr1 hM, rfl⟩, hPt ht hP⟩, hS.F ht⟩) hS.2.2 dX4_block_85
      have hM := it_n e19_2 hM
      by_cases e19_3 : a2 = 3
      · have hM := it_p e19_3 hM
        refine lv_tableIn (off := 67) (tgt := 86) hx hb dX4_block_19 (by rw [e19_3]; decide) (by rw [e19_3]; decide) (by rw [e19_3]; rfl) (by decide) ?_
        refine lv_aload_n hx hb dX4_block_86 rfl (lv_at hl 0 rfl) ?_
        refine gget (v := .ref (ad 1)) hx hb hts i4 hown hK1 hP 0 rfl rfl 0 (by decide) f12 rfl rfl dX4_block_87 ?_
        refine lv_iload_n hx hb dX4_block_90 rfl (lv_at hl 1 rfl) ?_
        refine lv_iconst (v := 3) hx hb dX4_block_91 (by decide) ?_
        obtain ⟨r8, h7, hM⟩ := bd1_some sm_ne hM
        refine gCi (gV (As := [.int a1, .int 3]) (rest := []) ⟨hx, hb, hml, hown, hts⟩ (kX3_thingsIn l dC dI ad cA hap _ c a1 3 _ h7) (cwV 2 hts gX4_block_X3_thingsIn rfl rfl rfl (by decide +kernel) ⟨Nat.le_of_ble_eq_true rfl, Nat.le_of_ble_eq_true rfl⟩) (kC_st _ _) hK hP (va_recv hK1 hP (ci := 3) (q0 := 1) rfl rfl) rfl hl.1 rfl (Nat.le_of_ble_eq_true rfl) dX4_block_92 ⟨Nat.zero_le _, Nat.zero_le _⟩) hS (fun H locs hP hS => ?_)
        exact W.iret hx hb hr (fun t ht hW => ⟨⟨_, _, rfl, ⟨pr1 hM, rfl⟩, hPt ht hP⟩, hS.F ht⟩) hS.2.2 dX4_block_95
      have hM := it_n e19_3 hM
      by_cases e19_4 : a2 = 4
      · have hM := it_p e19_4 hM
        refine lv_tableIn (off := 77) (tgt := 96) hx hb dX4_block_19 (by rw [e19_4]; decide) (by rw [e19_4]; decide) (by rw [e19_4]; rfl) (by decide) ?_
        refine lv_aload_n hx hb dX4_block_96 rfl (lv_at hl 0 rfl) ?_
        refine gget (v := .ref (ad 2)) hx hb hts i4 hown hK1 hP 0 rfl rfl 1 (by decide) f19 rfl rfl dX4_block_97 ?_
        refine gget (v := .ref (ad 13)) hx hb hts i2 hown hK1 hP 2 rfl rfl 4 (by decide) f165 rfl rfl dX4_block_100 ?_
        refine lv_iload_n hx hb dX4_block_103 rfl (lv_at hl 1 rfl) ?_
        obtain ⟨h10, x9, hx9, hM⟩ := ldA_some sm_ne hM
        refine gald hx hb hK1 hP 13 8 rfl rfl h10 hx9 dX4_block_104 ?_
        exact W.iret hx hb hr (fun t ht hW => ⟨⟨_, _, rfl, ⟨pr1 hM, rfl⟩, hPt ht hP⟩, hS.F ht⟩) hS.2.2 dX4_block_105
      have hM := it_n e19_4 hM
      by_cases e19_5 : a2 = 5
      · have hM := it_p e19_5 hM
        refine lv_tableIn (off := 87) (tgt := 106) hx hb dX4_block_19 (by rw [e19_5]; decide) (by rw [e19_5]; decide) (by rw [e19_5]; rfl) (by decide) ?_
        refine lv_aload_n hx hb dX4_block_106 rfl (lv_at hl 0 rfl) ?_
        refine gget (v := .ref (ad 1)) hx hb hts i4 hown hK1 hP 0 rfl rfl 0 (by decide) f12 rfl rfl dX4_block_107 ?_
        refine gget (v := .ref (ad 7)) hx hb hts i3 hown hK1 hP 1 rfl rfl 4 (by decide) f168 rfl rfl dX4_block_110 ?_
        refine lv_iload_n hx hb dX4_block_113 rfl (lv_at hl 1 rfl) ?_
        obtain ⟨h12, x11, hx11, hM⟩ := ldA_some sm_ne hM
        refine gald hx hb hK1 hP 7 2 rfl rfl h12 hx11 dX4_block_114 ?_
        exact W.iret hx hb hr (fun t ht hW => ⟨⟨_, _, rfl, ⟨pr1 hM, rfl⟩, hPt ht hP⟩, hS.F ht⟩) hS.2.2 dX4_block_115
      have hM := it_n e19_5 hM
      refine lv_tableOut (tgt := 116) hx hb dX4_block_19 (tsw_out 5 (by decide) (fun k hk => ?_)) (by decide) ?_
      · rcases (show k = 0 ∨ k = 1 ∨ k = 2 ∨ k = 3 ∨ k = 4 ∨ k = 5 by omega) with rfl | rfl | rfl | rfl | rfl | rfl <;> assumption
      refine lv_bipush (v := (-102)) hx hb dX4_block_116 (by decide) ?_
      exact W.iret hx hb hr (fun t ht hW => ⟨⟨_, _, rfl, ⟨pr1 hM, rfl⟩, hPt ht hP⟩, hS.F ht⟩) hS.2.2 dX4_block_118
    · have hM := it_n e13 hM
      refine lv_bipush (v := (-101)) hx hb dX4_block_15 (by decide) ?_
      exact W.iret hx hb hr (fun t ht hW => ⟨⟨_, _, rfl, ⟨pr1 hM, rfl⟩, hPt ht hP⟩, hS.F ht⟩) hS.2.2 dX4_block_17
set_option maxHeartbeats 4000000 in
set_option maxRecDepth 100000 in
theorem kX3_freeBlocks (l : Launch) (dC : Nat → ClassId) (dI : Nat → Nat → Nat) (ad : Nat → Nat) (cA : Nat → ClassId) (hap : apart 17 ad) (sz : Nat) (c : HS) (r0 : Int32) (hM : pX3_freeBlocks c = some r0) : Met l yX3_freeBlocks wsX3_freeBlocks ({ frames := 0, cells := 0, slots := 0, locals := 0 }) (gP (dC, dI) (wC ad cA) (kC (dC, dI) cA) c sz [.ref (ad 1)]) (gQi (dC, dI) (wC ad cA) (fA 17 ad sz) r0 c) 0 0 (fA 17 ad sz) := by
  refine Met.ofW (cc := cX3_freeBlocks) (maxL := 3) (ret := (some .int)) (by decide) rfl ?_
  intro p e s m args below meth cd s₁ B hml hv
  obtain ⟨rfl, rfl, hP, hK⟩ := hv
  have hx := B.exec
  have hb := B.bytes
  have hr := B.returns
  have hts := atoms_spec (ws := wsX3_freeBlocks) B.pre
  have hown : s.vm.findClass RX3 = some m.cls := findClass_of_methodNamed B.named
  have hlocks := B.notSynchronized
  have hK1 : va_K (dC, dI) vwCl (tC cA) s := hK.1
  have hD : ∀ c, va_D (fA 17 ad s.heap.size) (wC ad cA c) := fun c => dC_ok hap cA c _
  have hS : va_S (fA 17 ad s.heap.size) s.heap s.heap [] := va_S.rf
  have i3 : ∀ w ∈ u_ws RX3 TX3 9, w ∈ wsX3_freeBlocks := by decide +kernel
  have f9 := hts (.fieldLink RX3 9 "StickyHeap$Space" "sort" "[I") (by decide +kernel)
  have f33 := hts (.fieldLink RX3 33 "StickyHeap$Space" "blocks" "I") (by decide +kernel)
  have L4 : ∀ (n : Nat) (v1 : Int32) (v2 : Int32) (H : Heap) (locs : List Loc) (ls : Array Slot), pX3_freeBlocks_4 c n v1 v2 = some r0 → va_P (dC, dI) vwCl (wC ad cA c) H → va_S (fA 17 ad s.heap.size) s.heap H locs → lv_has ls 3 [(0, .ref (ad 1)), (1, .int v1), (2, .int v2)] → W p l e (headSpec wsX3_freeBlocks ({ frames := 0, cells := 0, slots := 0, locals := 0 })).room s m ([.ref (ad 1)]).toArray below meth cd H locs 0 0 (MQ below (gQi (dC, dI) (wC ad cA) (fA 17 ad s.heap.size) r0 c) ([.ref (ad 1)]).toArray s 0 0 (fA 17 ad s.heap.size)) (F0 m 4 ls []) := by
    intro n
    induction n with
    | zero =>
      intro v1 v2 H locs ls hM
      exact absurd (Eq.symm (hM : none = some r0)) sm_ne
    | succ n4 ih4 =>
      intro v1 v2 H locs ls hM hP hS hl
      unfold pX3_freeBlocks_4 at hM
      refine lv_iload_n hx hb dX3_freeBlocks_4 rfl (lv_at hl 2 rfl) ?_
      refine lv_aload_n hx hb dX3_freeBlocks_5 rfl (lv_at hl 0 rfl) ?_
      refine gget (v := .int (c.1 0 0)) hx hb hts i3 hown hK1 hP 1 rfl rfl 0 (by decide) f33 rfl rfl dX3_freeBlocks_6 ?_
      refine lv_icmp_ge (tgt := 30) hx hb dX3_freeBlocks_9 (by decide) (fun e4 => ?_) (fun e4 => ?_)
      · have hM := it_p e4 hM
        refine lv_iload_n hx hb dX3_freeBlocks_30 rfl (lv_at hl 1 rfl) ?_
        exact W.iret hx hb hr (fun t ht hW => ⟨⟨_, _, rfl, ⟨pr1 hM, rfl⟩, hPt ht hP⟩, hS.F ht⟩) hS.2.2 dX3_freeBlocks_31
      · have hM := it_n e4 hM
        refine lv_aload_n hx hb dX3_freeBlocks_12 rfl (lv_at hl 0 rfl) ?_
        refine gget (v := .ref (ad 5)) hx hb hts i3 hown hK1 hP 1 rfl rfl 2 (by decide) f9 rfl rfl dX3_freeBlocks_13 ?_
        refine lv_iload_n hx hb dX3_freeBlocks_16 rfl (lv_at hl 2 rfl) ?_
        obtain ⟨h2, x1, hx1, hM⟩ := ldA_some sm_ne hM
        refine gald hx hb hK1 hP 5 0 rfl rfl h2 hx1 dX3_freeBlocks_17 ?_
        refine lv_if_ne (tgt := 24) hx hb dX3_freeBlocks_18 (by decide) (fun e3 => ?_) (fun e3 => ?_)
        · have hM := it_n e3 hM
          refine lv_iinc (v := v2 + 1) (lv' := [(2, .int (v2 + 1)), (0, .ref (ad 1)), (1, .int v1)]) hx hb dX3_freeBlocks_24 hl (k := 2) rfl rfl (by decide) rfl (fun ls hl => ?_)
          refine lv_goto (tgt := 4) hx hb dX3_freeBlocks_27 (by decide) ?_
          exact ih4 _ _ _ _ _ hM hP hS (lv_sub hl [1, 2, 0] rfl)
        · have hM := it_p e3 hM
          refine lv_iinc (v := v1 + 1) (lv' := [(1, .int (v1 + 1)), (0, .ref (ad 1)), (2, .int v2)]) hx hb dX3_freeBlocks_21 hl (k := 1) rfl rfl (by decide) rfl (fun ls hl => ?_)
          refine lv_iinc (v := v2 + 1) (lv' := [(2, .int (v2 + 1)), (1, .int (v1 + 1)), (0, .ref (ad 1))]) hx hb dX3_freeBlocks_24 hl (k := 2) rfl rfl (by decide) rfl (fun ls hl => ?_)
          refine lv_goto (tgt := 4) hx hb dX3_freeBlocks_27 (by decide) ?_
          exact ih4 _ _ _ _ _ hM hP hS (lv_sub hl [2, 1, 0] rfl)
  have hl := lv_entry [.ref (ad 1)] (n := 3) (Nat.le_of_ble_eq_true rfl)
  rw [lg_entry_eq]
  generalize (lg_sl [.ref (ad 1)] ++ List.replicate (3 - (lg_sl [.ref (ad 1)]).length) Slot.unset).toArray = ls at hl ⊢
  have hl : lv_has ls 3 [(0, .ref (ad 1))] := hl
  have hP : va_P (dC, dI) vwCl (wC ad cA c) s.heap := hP
  unfold pX3_freeBlocks at hM
  refine lv_iconst (v := 0) hx hb dX3_freeBlocks_0 (by decide) ?_
  refine lv_istore_n (lv' := [(1, .int 0), (0, .ref (ad 1))]) hx hb dX3_freeBlocks_1 rfl hl (by decide) rfl (fun ls hl => ?_)
  refine lv_iconst (v := 0) hx hb dX3_freeBlocks_2 (by decide) ?_
  refine lv_istore_n (lv' := [(2, .int 0), (1, .int 0), (0, .ref (ad 1))]) hx hb dX3_freeBlocks_3 rfl hl (by decide) rfl (fun ls hl => ?_)
  exact L4 _ _ _ _ _ _ hM hP hS (lv_sub hl [2, 1, 0] rfl)
set_option maxHeartbeats 4000000 in
set_option maxRecDepth 100000 in
theorem kX3_roomFor (l : Launch) (dC : Nat → ClassId) (dI : Nat → Nat → Nat) (ad : Nat → Nat) (cA : Nat → ClassId) (hap : apart 17 ad) (sz : Nat) (c : HS) (a1 : Int32) (r0 : Int32) (hM : pX3_roomFor c a1 = some r0) : Met l yX3_roomFor wsX3_roomFor ({ frames := 1, cells := 0, slots := 0, locals := 24 }) (gP (dC, dI) (wC ad cA) (kC (dC, dI) cA) c sz [.ref (ad 1), .int a1]) (gQi (dC, dI) (wC ad cA) (fA 17 ad sz) r0 c) 0 0 (fA 17 ad sz) := by
  refine Met.ofW (cc := cX3_roomFor) (maxL := 4) (ret := (some .int)) (by decide) rfl ?_
  intro p e s m args below meth cd s₁ B hml hv
  obtain ⟨rfl, rfl, hP, hK⟩ := hv
  have hx := B.exec
  have hb := B.bytes
  have hr := B.returns
  have hts := atoms_spec (ws := wsX3_roomFor) B.pre
  have hown : s.vm.findClass RX3 = some m.cls := findClass_of_methodNamed B.named
  have hlocks := B.notSynchronized
  have hK1 : va_K (dC, dI) vwCl (tC cA) s := hK.1
  have hD : ∀ c, va_D (fA 17 ad s.heap.size) (wC ad cA c) := fun c => dC_ok hap cA c _
  have hS : va_S (fA 17 ad s.heap.size) s.heap s.heap [] := va_S.rf
  have i3 : ∀ w ∈ u_ws RX3 TX3 9, w ∈ wsX3_roomFor := by decide +kernel
  have f9 := hts (.fieldLink RX3 9 "StickyHeap$Space" "sort" "[I") (by decide +kernel)
  have f15 := hts (.fieldLink RX3 15 "StickyHeap$Space" "detail" "[I") (by decide +kernel)
  have f33 := hts (.fieldLink RX3 33 "StickyHeap$Space" "blocks" "I") (by decide +kernel)
  have L22 : ∀ (n : Nat) (v1 : Int32) (v2 : Int32) (v3 : Int32) (H : Heap) (locs : List Loc) (ls : Array Slot), pX3_roomFor_22 c n v1 v2 v3 = some r0 → va_P (dC, dI) vwCl (wC ad cA c) H → va_S (fA 17 ad s.heap.size) s.heap H locs → lv_has ls 4 [(0, .ref (ad 1)), (1, .int v1), (2, .int v2), (3, .int v3)] → W p l e (headSpec wsX3_roomFor ({ frames := 1, cells := 0, slots := 0, locals := 24 })).room s m ([.ref (ad 1), .int a1]).toArray below meth cd H locs 0 0 (MQ below (gQi (dC, dI) (wC ad cA) (fA 17 ad s.heap.size) r0 c) ([.ref (ad 1), .int a1]).toArray s 0 0 (fA 17 ad s.heap.size)) (F0 m 22 ls []) := by
    intro n
    induction n with
    | zero =>
      intro v1 v2 v3 H locs ls hM
      exact absurd (Eq.symm (hM : none = some r0)) sm_ne
    | succ n22 ih22 =>
      intro v1 v2 v3 H locs ls hM hP hS hl
      unfold pX3_roomFor_22 at hM
      refine lv_iload_n hx hb dX3_roomFor_22 rfl (lv_at hl 3 rfl) ?_
      refine lv_aload_n hx hb dX3_roomFor_23 rfl (lv_at hl 0 rfl) ?_
      refine gget (v := .int (c.1 0 0)) hx hb hts i3 hown hK1 hP 1 rfl rfl 0 (by decide) f33 rfl rfl dX3_roomFor_24 ?_
      refine lv_icmp_ge (tgt := 70) hx hb dX3_roomFor_27 (by decide) (fun e9 => ?_) (fun e9 => ?_)
      · have hM := it_p e9 hM
        refine lv_iload_n hx hb dX3_roomFor_70 rfl (lv_at hl 2 rfl) ?_
        exact W.iret hx hb hr (fun t ht hW => ⟨⟨_, _, rfl, ⟨pr1 hM, rfl⟩, hPt ht hP⟩, hS.F ht⟩) hS.2.2 dX3_roomFor_71
      · have hM := it_n e9 hM
        refine lv_aload_n hx hb dX3_roomFor_30 rfl (lv_at hl 0 rfl) ?_
        refine gget (v := .ref (ad 5)) hx hb hts i3 hown hK1 hP 1 rfl rfl 2 (by decide) f9 rfl rfl dX3_roomFor_31 ?_
        refine lv_iload_n hx hb dX3_roomFor_34 rfl (lv_at hl 3 rfl) ?_
        obtain ⟨h2, x1, hx1, hM⟩ := ldA_some sm_ne hM
        refine gald hx hb hK1 hP 5 0 rfl rfl h2 hx1 dX3_roomFor_35 ?_
        refine lv_iconst (v := 1) hx hb dX3_roomFor_36 (by decide) ?_
        refine lv_icmp_ne (tgt := 64) hx hb dX3_roomFor_37 (by decide) (fun e8 => ?_) (fun e8 => ?_)
        · have hM := it_n e8 hM
          refine lv_iinc (v := v3 + 1) (lv' := [(3, .int (v3 + 1)), (0, .ref (ad 1)), (1, .int v1), (2, .int v2)]) hx hb dX3_roomFor_64 hl (k := 3) rfl rfl (by decide) rfl (fun ls hl => ?_)
          refine lv_goto (tgt := 22) hx hb dX3_roomFor_67 (by decide) ?_
          exact ih22 _ _ _ _ _ _ hM hP hS (lv_sub hl [1, 2, 3, 0] rfl)
        · have hM := it_p e8 hM
          refine lv_aload_n hx hb dX3_roomFor_40 rfl (lv_at hl 0 rfl) ?_
          refine gget (v := .ref (ad 6)) hx hb hts i3 hown hK1 hP 1 rfl rfl 3 (by decide) f15 rfl rfl dX3_roomFor_41 ?_
          refine lv_iload_n hx hb dX3_roomFor_44 rfl (lv_at hl 3 rfl) ?_
          obtain ⟨h4, x3, hx3, hM⟩ := ldA_some sm_ne hM
          refine gald hx hb hK1 hP 6 1 rfl rfl h4 hx3 dX3_roomFor_45 ?_
          refine lv_iload_n hx hb dX3_roomFor_46 rfl (lv_at hl 1 rfl) ?_
          refine lv_icmp_ne (tgt := 64) hx hb dX3_roomFor_47 (by decide) (fun e7 => ?_) (fun e7 => ?_)
          · have hM := it_n e7 hM
            refine lv_iinc (v := v3 + 1) (lv' := [(3, .int (v3 + 1)), (0, .ref (ad 1)), (1, .int v1), (2, .int v2)]) hx hb dX3_roomFor_64 hl (k := 3) rfl rfl (by decide) rfl (fun ls hl => ?_)
            refine lv_goto (tgt := 22) hx hb dX3_roomFor_67 (by decide) ?_
            exact ih22 _ _ _ _ _ _ hM hP hS (lv_sub hl [1, 2, 3, 0] rfl)
          · have hM := it_p e7 hM
            refine lv_iload_n hx hb dX3_roomFor_50 rfl (lv_at hl 2 rfl) ?_
            refine lv_iload_n hx hb dX3_roomFor_51 rfl (lv_at hl 1 rfl) ?_
            refine gCi (gSN (As := [.int v1]) (rest := [.int v2]) ⟨hx, hb, hml, hown, hts⟩ (kX4_cellsOf l dC dI ad cA hap _ c v1 _ rfl) (va_cnB 1 hts gX3_roomFor_X4_cellsOf_n77 rfl rfl rfl hK.2.2.2.2 (hts (.initialized RX4) (by decide +kernel)) (by decide +kernel) ⟨Nat.le_of_ble_eq_true rfl, Nat.le_of_ble_eq_true rfl⟩) (hts (.static yX4_cellsOf) (by decide +kernel)) (kC_st _ _) hK hP rfl hl.1 rfl (Nat.le_of_ble_eq_true rfl) dX3_roomFor_52 ⟨Nat.zero_le _, Nat.zero_le _⟩) hS (fun H locs hP hS => ?_)
            refine lv_aload_n hx hb dX3_roomFor_55 rfl (lv_at hl 0 rfl) ?_
            refine lv_iload_n hx hb dX3_roomFor_56 rfl (lv_at hl 3 rfl) ?_
            refine lv_iconst (v := 1) hx hb dX3_roomFor_57 (by decide) ?_
            obtain ⟨r6, h5, hM⟩ := bd1_some sm_ne hM
            refine gCi (gV (As := [.int v3, .int 1]) (rest := [.int (pX4_cellsOf v1), .int v2]) ⟨hx, hb, hml, hown, hts⟩ (kX3_thingsIn l dC dI ad cA hap _ c v3 1 _ h5) (cwV 2 hts gX3_roomFor_X3_thingsIn rfl rfl rfl (by decide +kernel) ⟨Nat.le_of_ble_eq_true rfl, Nat.le_of_ble_eq_true rfl⟩) (kC_st _ _) hK hP (va_recv hK1 hP (ci := 3) (q0 := 1) rfl rfl) rfl hl.1 rfl (Nat.le_of_ble_eq_true rfl) dX3_roomFor_58 ⟨Nat.zero_le _, Nat.zero_le _⟩) hS (fun H locs hP hS => ?_)
            refine lv_isub hx hb dX3_roomFor_61 ?_
            refine lv_iadd hx hb dX3_roomFor_62 ?_
            refine lv_istore_n (lv' := [(2, .int (v2 + ((pX4_cellsOf v1) - r6))), (0, .ref (ad 1)), (1, .int v1), (3, .int v3)]) hx hb dX3_roomFor_63 rfl hl (by decide) rfl (fun ls hl => ?_)
            refine lv_iinc (v := v3 + 1) (lv' := [(3, .int (v3 + 1)), (2, .int (v2 + ((pX4_cellsOf v1) - r6))), (0, .ref (ad 1)), (1, .int v1)]) hx hb dX3_roomFor_64 hl (k := 3) rfl rfl (by decide) rfl (fun ls hl => ?_)
            refine lv_goto (tgt := 22) hx hb dX3_roomFor_67 (by decide) ?_
            exact ih22 _ _ _ _ _ _ hM hP hS (lv_sub hl [2, 3, 1, 0] rfl)
  have hl := lv_entry [.ref (ad 1), .int a1] (n := 4) (Nat.le_of_ble_eq_true rfl)
  rw [lg_entry_eq]
  generalize (lg_sl [.ref (ad 1), .int a1] ++ List.replicate (4 - (lg_sl [.ref (ad 1), .int a1]).length) Slot.unset).toArray = ls at hl ⊢
  have hl : lv_has ls 4 [(0, .ref (ad 1)), (1, .int a1)] := hl
  have hP : va_P (dC, dI) vwCl (wC ad cA c) s.heap := hP
  unfold pX3_roomFor at hM
  refine lv_iload_n hx hb dX3_roomFor_0 rfl (lv_at hl 1 rfl) ?_
  refine lv_iconst (v := 5) hx hb dX3_roomFor_1 (by decide) ?_
  refine lv_icmp_ne (tgt := 10) hx hb dX3_roomFor_2 (by decide) (fun e14 => ?_) (fun e14 => ?_)
  · have hM := it_n e14 hM
    refine lv_aload_n hx hb dX3_roomFor_10 rfl (lv_at hl 0 rfl) ?_
    obtain ⟨r11, h10, hM⟩ := bd1_some sm_ne hM
    refine gCi (gV (As := []) (rest := []) ⟨hx, hb, hml, hown, hts⟩ (kX3_freeBlocks l dC dI ad cA hap _ c _ h10) (cwV 0 hts gX3_roomFor_X3_freeBlocks rfl rfl rfl (by decide +kernel) ⟨Nat.le_of_ble_eq_true rfl, Nat.le_of_ble_eq_true rfl⟩) (kC_st _ _) hK hP (va_recv hK1 hP (ci := 3) (q0 := 1) rfl rfl) rfl hl.1 rfl (Nat.le_of_ble_eq_true rfl) dX3_roomFor_11 ⟨Nat.zero_le _, Nat.zero_le _⟩) hS (fun H locs hP hS => ?_)
    refine lv_iload_n hx hb dX3_roomFor_14 rfl (lv_at hl 1 rfl) ?_
    refine gCi (gSN (As := [.int a1]) (rest := [.int r11]) ⟨hx, hb, hml, hown, hts⟩ (kX4_cellsOf l dC dI ad cA hap _ c a1 _ rfl) (va_cnB 1 hts gX3_roomFor_X4_cellsOf_n77 rfl rfl rfl hK.2.2.2.2 (hts (.initialized RX4) (by decide +kernel)) (by decide +kernel) ⟨Nat.le_of_ble_eq_true rfl, Nat.le_of_ble_eq_true rfl⟩) (hts (.static yX4_cellsOf) (by decide +kernel)) (kC_st _ _) hK hP rfl hl.1 rfl (Nat.le_of_ble_eq_true rfl) dX3_roomFor_15 ⟨Nat.zero_le _, Nat.zero_le _⟩) hS (fun H locs hP hS => ?_)
    refine lv_imul hx hb dX3_roomFor_18 ?_
    refine lv_istore_n (lv' := [(2, .int (r11 * (pX4_cellsOf a1))), (0, .ref (ad 1)), (1, .int a1)]) hx hb dX3_roomFor_19 rfl hl (by decide) rfl (fun ls hl => ?_)
    refine lv_iconst (v := 0) hx hb dX3_roomFor_20 (by decide) ?_
    refine lv_istore_n (lv' := [(3, .int 0), (2, .int (r11 * (pX4_cellsOf a1))), (0, .ref (ad 1)), (1, .int a1)]) hx hb dX3_roomFor_21 rfl hl (by decide) rfl (fun ls hl => ?_)
    exact L22 _ _ _ _ _ _ _ hM hP hS (lv_sub hl [2, 3, 1, 0] rfl)
  · have hM := it_p e14 hM
    refine lv_aload_n hx hb dX3_roomFor_5 rfl (lv_at hl 0 rfl) ?_
    obtain ⟨r13, h12, hM⟩ := bd1_some sm_ne hM
    refine gCi (gV (As := []) (rest := []) ⟨hx, hb, hml, hown, hts⟩ (kX3_freeBlocks l dC dI ad cA hap _ c _ h12) (cwV 0 hts gX3_roomFor_X3_freeBlocks rfl rfl rfl (by decide +kernel) ⟨Nat.le_of_ble_eq_true rfl, Nat.le_of_ble_eq_true rfl⟩) (kC_st _ _) hK hP (va_recv hK1 hP (ci := 3) (q0 := 1) rfl rfl) rfl hl.1 rfl (Nat.le_of_ble_eq_true rfl) dX3_roomFor_6 ⟨Nat.zero_le _, Nat.zero_le _⟩) hS (fun H locs hP hS => ?_)
    exact W.iret hx hb hr (fun t ht hW => ⟨⟨_, _, rfl, ⟨pr1 hM, rfl⟩, hPt ht hP⟩, hS.F ht⟩) hS.2.2 dX3_roomFor_9
set_option maxHeartbeats 4000000 in
set_option maxRecDepth 100000 in
theorem kX4_room (l : Launch) (dC : Nat → ClassId) (dI : Nat → Nat → Nat) (ad : Nat → Nat) (cA : Nat → ClassId) (hap : apart 17 ad) (sz : Nat) (c : HS) (a1 : Int32) (r0 : Int32) (hM : pX4_room c a1 = some r0) : Met l yX4_room wsX4_room ({ frames := 2, cells := 0, slots := 0, locals := 47 }) (gP (dC, dI) (wC ad cA) (kC (dC, dI) cA) c sz [.ref (ad 0), .int a1]) (gQi (dC, dI) (wC ad cA) (fA 17 ad sz) r0 c) 0 0 (fA 17 ad sz) := by
  refine Met.ofW (cc := cX4_room) (maxL := 2) (ret := (some .int)) (by decide) rfl ?_
  intro p e s m args below meth cd s₁ B hml hv
  obtain ⟨rfl, rfl, hP, hK⟩ := hv
  have hx := B.exec
  have hb := B.bytes
  have hr := B.returns
  have hts := atoms_spec (ws := wsX4_room) B.pre
  have hown : s.vm.findClass RX4 = some m.cls := findClass_of_methodNamed B.named
  have hlocks := B.notSynchronized
  have hK1 : va_K (dC, dI) vwCl (tC cA) s := hK.1
  have hD : ∀ c, va_D (fA 17 ad s.heap.size) (wC ad cA c) := fun c => dC_ok hap cA c _
  have hS : va_S (fA 17 ad s.heap.size) s.heap s.heap [] := va_S.rf
  have i4 : ∀ w ∈ u_ws RX4 TX4 7, w ∈ wsX4_room := by decide +kernel
  have f12 := hts (.fieldLink RX4 12 "StickyHeap" "space" "LStickyHeap$Space;") (by decide +kernel)
  have hl := lv_entry [.ref (ad 0), .int a1] (n := 2) (Nat.le_of_ble_eq_true rfl)
  rw [lg_entry_eq]
  generalize (lg_sl [.ref (ad 0), .int a1] ++ List.replicate (2 - (lg_sl [.ref (ad 0), .int a1]).length) Slot.unset).toArray = ls at hl ⊢
  have hl : lv_has ls 2 [(0, .ref (ad 0)), (1, .int a1)] := hl
  have hP : va_P (dC, dI) vwCl (wC ad cA c) s.heap := hP
  unfold pX4_room at hM
  refine lv_iload_n hx hb dX4_room_0 rfl (lv_at hl 1 rfl) ?_
  refine lv_if_lt (tgt := 9) hx hb dX4_room_1 (by decide) (fun e4 => ?_) (fun e4 => ?_)
  · have hM := it_p e4 hM
    refine lv_bipush (v := (-102)) hx hb dX4_room_9 (by decide) ?_
    refine lv_goto (tgt := 22) hx hb dX4_room_11 (by decide) ?_
    exact W.iret hx hb hr (fun t ht hW => ⟨⟨_, _, rfl, ⟨pr1 hM, rfl⟩, hPt ht hP⟩, hS.F ht⟩) hS.2.2 dX4_room_22
  · have hM := it_n e4 hM
    refine lv_iload_n hx hb dX4_room_4 rfl (lv_at hl 1 rfl) ?_
    refine lv_iconst (v := 5) hx hb dX4_room_5 (by decide) ?_
    refine lv_icmp_le (tgt := 14) hx hb dX4_room_6 (by decide) (fun e3 => ?_) (fun e3 => ?_)
    · have hM := it_p e3 hM
      refine lv_aload_n hx hb dX4_room_14 rfl (lv_at hl 0 rfl) ?_
      refine gget (v := .ref (ad 1)) hx hb hts i4 hown hK1 hP 0 rfl rfl 0 (by decide) f12 rfl rfl dX4_room_15 ?_
      refine lv_iload_n hx hb dX4_room_18 rfl (lv_at hl 1 rfl) ?_
      obtain ⟨r2, h1, hM⟩ := bd1_some sm_ne hM
      refine gCi (gV (As := [.int a1]) (rest := []) ⟨hx, hb, hml, hown, hts⟩ (kX3_roomFor l dC dI ad cA hap _ c a1 _ h1) (cwV 1 hts gX4_room_X3_roomFor rfl rfl rfl (by decide +kernel) ⟨Nat.le_of_ble_eq_true rfl, Nat.le_of_ble_eq_true rfl⟩) (kC_st _ _) hK hP (va_recv hK1 hP (ci := 3) (q0 := 1) rfl rfl) rfl hl.1 rfl (Nat.le_of_ble_eq_true rfl) dX4_room_19 ⟨Nat.zero_le _, Nat.zero_le _⟩) hS (fun H locs hP hS => ?_)
      exact W.iret hx hb hr (fun t ht hW => ⟨⟨_, _, rfl, ⟨pr1 hM, rfl⟩, hPt ht hP⟩, hS.F ht⟩) hS.2.2 dX4_room_22
    · have hM := it_n e3 hM
      refine lv_bipush (v := (-102)) hx hb dX4_room_9 (by decide) ?_
      refine lv_goto (tgt := 22) hx hb dX4_room_11 (by decide) ?_
      exact W.iret hx hb hr (fun t ht hW => ⟨⟨_, _, rfl, ⟨pr1 hM, rfl⟩, hPt ht hP⟩, hS.F ht⟩) hS.2.2 dX4_room_22
set_option maxHeartbeats 4000000 in
set_option maxRecDepth 100000 in
theorem kX4_thingsInLog (l : Launch) (dC : Nat → ClassId) (dI : Nat → Nat → Nat) (ad : Nat → Nat) (cA : Nat → ClassId) (hap : apart 17 ad) (sz : Nat) (c : HS) (r0 : Int32) (hM : pX4_thingsInLog c = some r0) : Met l yX4_thingsInLog wsX4_thingsInLog ({ frames := 3, cells := 0, slots := 0, locals := 64 }) (gP (dC, dI) (wC ad cA) (kC (dC, dI) cA) c sz [.ref (ad 0)]) (gQi (dC, dI) (wC ad cA) (fA 17 ad sz) r0 c) 0 0 (fA 17 ad sz) := by
  refine Met.ofW (cc := cX4_thingsInLog) (maxL := 3) (ret := (some .int)) (by decide) rfl ?_
  intro p e s m args below meth cd s₁ B hml hv
  obtain ⟨rfl, rfl, hP, hK⟩ := hv
  have hx := B.exec
  have hb := B.bytes
  have hr := B.returns
  have hts := atoms_spec (ws := wsX4_thingsInLog) B.pre
  have hown : s.vm.findClass RX4 = some m.cls := findClass_of_methodNamed B.named
  have hlocks := B.notSynchronized
  have hK1 : va_K (dC, dI) vwCl (tC cA) s := hK.1
  have hD : ∀ c, va_D (fA 17 ad s.heap.size) (wC ad cA c) := fun c => dC_ok hap cA c _
  have hS : va_S (fA 17 ad s.heap.size) s.heap s.heap [] := va_S.rf
  have i4 : ∀ w ∈ u_ws RX4 TX4 7, w ∈ wsX4_thingsInLog := by decide +kernel
  have i3 : ∀ w ∈ u_ws RX3 TX3 9, w ∈ wsX4_thingsInLog := by decide +kernel
  have f12 := hts (.fieldLink RX4 12 "StickyHeap" "space" "LStickyHeap$Space;") (by decide +kernel)
  have f19 := hts (.fieldLink RX4 19 "StickyHeap" "memory" "LStickyHeap$Memory;") (by decide +kernel)
  have f204 := hts (.fieldLink RX4 204 "StickyHeap$Space" "limit" "I") (by decide +kernel)
  have L4 : ∀ (n : Nat) (v1 : Int32) (v2 : Int32) (H : Heap) (locs : List Loc) (ls : Array Slot), pX4_thingsInLog_4 c n v1 v2 = some r0 → va_P (dC, dI) vwCl (wC ad cA c) H → va_S (fA 17 ad s.heap.size) s.heap H locs → lv_has ls 3 [(0, .ref (ad 0)), (1, .int v1), (2, .int v2)] → W p l e (headSpec wsX4_thingsInLog ({ frames := 3, cells := 0, slots := 0, locals := 64 })).room s m ([.ref (ad 0)]).toArray below meth cd H locs 0 0 (MQ below (gQi (dC, dI) (wC ad cA) (fA 17 ad s.heap.size) r0 c) ([.ref (ad 0)]).toArray s 0 0 (fA 17 ad s.heap.size)) (F0 m 4 ls []) := by
    intro n
    induction n with
    | zero =>
      intro v1 v2 H locs ls hM
      exact absurd (Eq.symm (hM : none = some r0)) sm_ne
    | succ n4 ih4 =>
      intro v1 v2 H locs ls hM hP hS hl
      unfold pX4_thingsInLog_4 at hM
      refine lv_iload_n hx hb dX4_thingsInLog_4 rfl (lv_at hl 2 rfl) ?_
      refine lv_aload_n hx hb dX4_thingsInLog_5 rfl (lv_at hl 0 rfl) ?_
      refine gget (v := .ref (ad 1)) hx hb hts i4 hown hK1 hP 0 rfl rfl 0 (by decide) f12 rfl rfl dX4_thingsInLog_6 ?_
      refine gget (v := .int (c.1 0 1)) hx hb hts i3 hown hK1 hP 1 rfl rfl 1 (by decide) f204 rfl rfl dX4_thingsInLog_9 ?_
      refine lv_icmp_ge (tgt := 39) hx hb dX4_thingsInLog_12 (by decide) (fun e4 => ?_) (fun e4 => ?_)
      · have hM := it_p e4 hM
        refine lv_iload_n hx hb dX4_thingsInLog_39 rfl (lv_at hl 1 rfl) ?_
        exact W.iret hx hb hr (fun t ht hW => ⟨⟨_, _, rfl, ⟨pr1 hM, rfl⟩, hPt ht hP⟩, hS.F ht⟩) hS.2.2 dX4_thingsInLog_40
      · have hM := it_n e4 hM
        refine lv_aload_n hx hb dX4_thingsInLog_15 rfl (lv_at hl 0 rfl) ?_
        refine gget (v := .ref (ad 2)) hx hb hts i4 hown hK1 hP 0 rfl rfl 1 (by decide) f19 rfl rfl dX4_thingsInLog_16 ?_
        refine lv_aload_n hx hb dX4_thingsInLog_19 rfl (lv_at hl 0 rfl) ?_
        refine gget (v := .ref (ad 1)) hx hb hts i4 hown hK1 hP 0 rfl rfl 0 (by decide) f12 rfl rfl dX4_thingsInLog_20 ?_
        refine lv_iload_n hx hb dX4_thingsInLog_23 rfl (lv_at hl 2 rfl) ?_
        obtain ⟨r2, h1, hM⟩ := bd1_some sm_ne hM
        refine gCi (gV (As := [.ref (ad 1), .int v2]) (rest := []) ⟨hx, hb, hml, hown, hts⟩ (kX2_counts l dC dI ad cA hap _ c v2 _ h1) (cwV 2 hts gX4_thingsInLog_X2_counts rfl rfl rfl (by decide +kernel) ⟨Nat.le_of_ble_eq_true rfl, Nat.le_of_ble_eq_true rfl⟩) (kC_st _ _) hK hP (va_recv hK1 hP (ci := 2) (q0 := 2) rfl rfl) rfl hl.1 rfl (Nat.le_of_ble_eq_true rfl) dX4_thingsInLog_24 ⟨Nat.zero_le _, Nat.zero_le _⟩) hS (fun H locs hP hS => ?_)
        refine lv_if_eq (tgt := 33) hx hb dX4_thingsInLog_27 (by decide) (fun e3 => ?_) (fun e3 => ?_)
        · have hM := it_p e3 hM
          refine lv_iinc (v := v2 + 2) (lv' := [(2, .int (v2 + 2)), (0, .ref (ad 0)), (1, .int v1)]) hx hb dX4_thingsInLog_33 hl (k := 2) rfl rfl (by decide) rfl (fun ls hl => ?_)
          refine lv_goto (tgt := 4) hx hb dX4_thingsInLog_36 (by decide) ?_
          exact ih4 _ _ _ _ _ hM hP hS (lv_sub hl [1, 2, 0] rfl)
        · have hM := it_n e3 hM
          refine lv_iinc (v := v1 + 1) (lv' := [(1, .int (v1 + 1)), (0, .ref (ad 0)), (2, .int v2)]) hx hb dX4_thingsInLog_30 hl (k := 1) rfl rfl (by decide) rfl (fun ls hl => ?_)
          refine lv_iinc (v := v2 + 2) (lv' := [(2, .int (v2 + 2)), (1, .int (v1 + 1)), (0, .ref (ad 0))]) hx hb dX4_thingsInLog_33 hl (k := 2) rfl rfl (by decide) rfl (fun ls hl => ?_)
          refine lv_goto (tgt := 4) hx hb dX4_thingsInLog_36 (by decide) ?_
          exact ih4 _ _ _ _ _ hM hP hS (lv_sub hl [2, 1, 0] rfl)
  have hl := lv_entry [.ref (ad 0)] (n := 3) (Nat.le_of_ble_eq_true rfl)
  rw [lg_entry_eq]
  generalize (lg_sl [.ref (ad 0)] ++ List.replicate (3 - (lg_sl [.ref (ad 0)]).length) Slot.unset).toArray = ls at hl ⊢
  have hl : lv_has ls 3 [(0, .ref (ad 0))] := hl
  have hP : va_P (dC, dI) vwCl (wC ad cA c) s.heap := hP
  unfold pX4_thingsInLog at hM
  refine lv_iconst (v := 0) hx hb dX4_thingsInLog_0 (by decide) ?_
  refine lv_istore_n (lv' := [(1, .int 0), (0, .ref (ad 0))]) hx hb dX4_thingsInLog_1 rfl hl (by decide) rfl (fun ls hl => ?_)
  refine lv_iconst (v := 0) hx hb dX4_thingsInLog_2 (by decide) ?_
  refine lv_istore_n (lv' := [(2, .int 0), (1, .int 0), (0, .ref (ad 0))]) hx hb dX4_thingsInLog_3 rfl hl (by decide) rfl (fun ls hl => ?_)
  exact L4 _ _ _ _ _ _ hM hP hS (lv_sub hl [2, 1, 0] rfl)
set_option maxHeartbeats 4000000 in
set_option maxRecDepth 100000 in
theorem kX3_barredBlocks (l : Launch) (dC : Nat → ClassId) (dI : Nat → Nat → Nat) (ad : Nat → Nat) (cA : Nat → ClassId) (hap : apart 17 ad) (sz : Nat) (c : HS) (r0 : Int32) (hM : pX3_barredBlocks c = some r0) : Met l yX3_barredBlocks wsX3_barredBlocks ({ frames := 0, cells := 0, slots := 0, locals := 0 }) (gP (dC, dI) (wC ad cA) (kC (dC, dI) cA) c sz [.ref (ad 1)]) (gQi (dC, dI) (wC ad cA) (fA 17 ad sz) r0 c) 0 0 (fA 17 ad sz) := by
  refine Met.ofW (cc := cX3_barredBlocks) (maxL := 3) (ret := (some .int)) (by decide) rfl ?_
  intro p e s m args below meth cd s₁ B hml hv
  obtain ⟨rfl, rfl, hP, hK⟩ := hv
  have hx := B.exec
  have hb := B.bytes
  have hr := B.returns
  have hts := atoms_spec (ws := wsX3_barredBlocks) B.pre
  have hown : s.vm.findClass RX3 = some m.cls := findClass_of_methodNamed B.named
  have hlocks := B.notSynchronized
  have hK1 : va_K (dC, dI) vwCl (tC cA) s := hK.1
  have hD : ∀ c, va_D (fA 17 ad s.heap.size) (wC ad cA c) := fun c => dC_ok hap cA c _
  have hS : va_S (fA 17 ad s.heap.size) s.heap s.heap [] := va_S.rf
  have i3 : ∀ w ∈ u_ws RX3 TX3 9, w ∈ wsX3_barredBlocks := by decide +kernel
  have f18 := hts (.fieldLink RX3 18 "StickyHeap$Space" "barred" "[I") (by decide +kernel)
  have f33 := hts (.fieldLink RX3 33 "StickyHeap$Space" "blocks" "I") (by decide +kernel)
  have L4 : ∀ (n : Nat) (v1 : Int32) (v2 : Int32) (H : Heap) (locs : List Loc) (ls : Array Slot), pX3_barredBlocks_4 c n v1 v2 = some r0 → va_P (dC, dI) vwCl (wC ad cA c) H → va_S (fA 17 ad s.heap.size) s.heap H locs → lv_has ls 3 [(0, .ref (ad 1)), (1, .int v1), (2, .int v2)] → W p l e (headSpec wsX3_barredBlocks ({ frames := 0, cells := 0, slots := 0, locals := 0 })).room s m ([.ref (ad 1)]).toArray below meth cd H locs 0 0 (MQ below (gQi (dC, dI) (wC ad cA) (fA 17 ad s.heap.size) r0 c) ([.ref (ad 1)]).toArray s 0 0 (fA 17 ad s.heap.size)) (F0 m 4 ls []) := by
    intro n
    induction n with
    | zero =>
      intro v1 v2 H locs ls hM
      exact absurd (Eq.symm (hM : none = some r0)) sm_ne
    | succ n4 ih4 =>
      intro v1 v2 H locs ls hM hP hS hl
      unfold pX3_barredBlocks_4 at hM
      refine lv_iload_n hx hb dX3_barredBlocks_4 rfl (lv_at hl 2 rfl) ?_
      refine lv_aload_n hx hb dX3_barredBlocks_5 rfl (lv_at hl 0 rfl) ?_
      refine gget (v := .int (c.1 0 0)) hx hb hts i3 hown hK1 hP 1 rfl rfl 0 (by decide) f33 rfl rfl dX3_barredBlocks_6 ?_
      refine lv_icmp_ge (tgt := 27) hx hb dX3_barredBlocks_9 (by decide) (fun e3 => ?_) (fun e3 => ?_)
      · have hM := it_p e3 hM
        refine lv_iload_n hx hb dX3_barredBlocks_27 rfl (lv_at hl 1 rfl) ?_
        exact W.iret hx hb hr (fun t ht hW => ⟨⟨_, _, rfl, ⟨pr1 hM, rfl⟩, hPt ht hP⟩, hS.F ht⟩) hS.2.2 dX3_barredBlocks_28
      · have hM := it_n e3 hM
        refine lv_iload_n hx hb dX3_barredBlocks_12 rfl (lv_at hl 1 rfl) ?_
        refine lv_aload_n hx hb dX3_barredBlocks_13 rfl (lv_at hl 0 rfl) ?_
        refine gget (v := .ref (ad 7)) hx hb hts i3 hown hK1 hP 1 rfl rfl 4 (by decide) f18 rfl rfl dX3_barredBlocks_14 ?_
        refine lv_iload_n hx hb dX3_barredBlocks_17 rfl (lv_at hl 2 rfl) ?_
        obtain ⟨h2, x1, hx1, hM⟩ := ldA_some sm_ne hM
        refine gald hx hb hK1 hP 7 2 rfl rfl h2 hx1 dX3_barredBlocks_18 ?_
        refine lv_iadd hx hb dX3_barredBlocks_19 ?_
        refine lv_istore_n (lv' := [(1, .int (v1 + x1)), (0, .ref (ad 1)), (2, .int v2)]) hx hb dX3_barredBlocks_20 rfl hl (by decide) rfl (fun ls hl => ?_)
        refine lv_iinc (v := v2 + 1) (lv' := [(2, .int (v2 + 1)), (1, .int (v1 + x1)), (0, .ref (ad 1))]) hx hb dX3_barredBlocks_21 hl (k := 2) rfl rfl (by decide) rfl (fun ls hl => ?_)
        refine lv_goto (tgt := 4) hx hb dX3_barredBlocks_24 (by decide) ?_
        exact ih4 _ _ _ _ _ hM hP hS (lv_sub hl [2, 1, 0] rfl)
  have hl := lv_entry [.ref (ad 1)] (n := 3) (Nat.le_of_ble_eq_true rfl)
  rw [lg_entry_eq]
  generalize (lg_sl [.ref (ad 1)] ++ List.replicate (3 - (lg_sl [.ref (ad 1)]).length) Slot.unset).toArray = ls at hl ⊢
  have hl : lv_has ls 3 [(0, .ref (ad 1))] := hl
  have hP : va_P (dC, dI) vwCl (wC ad cA c) s.heap := hP
  unfold pX3_barredBlocks at hM
  refine lv_iconst (v := 0) hx hb dX3_barredBlocks_0 (by decide) ?_
  refine lv_istore_n (lv' := [(1, .int 0), (0, .ref (ad 1))]) hx hb dX3_barredBlocks_1 rfl hl (by decide) rfl (fun ls hl => ?_)
  refine lv_iconst (v := 0) hx hb dX3_barredBlocks_2 (by decide) ?_
  refine lv_istore_n (lv' := [(2, .int 0), (1, .int 0), (0, .ref (ad 1))]) hx hb dX3_barredBlocks_3 rfl hl (by decide) rfl (fun ls hl => ?_)
  exact L4 _ _ _ _ _ _ hM hP hS (lv_sub hl [2, 1, 0] rfl)
set_option maxHeartbeats 4000000 in
set_option maxRecDepth 100000 in
theorem kX4_count (l : Launch) (dC : Nat → ClassId) (dI : Nat → Nat → Nat) (ad : Nat → Nat) (cA : Nat → ClassId) (hap : apart 17 ad) (sz : Nat) (c : HS) (a1 : Int32) (r0 : Int32) (hM : pX4_count c a1 = some r0) : Met l yX4_count wsX4_count ({ frames := 4, cells := 0, slots := 0, locals := 86 }) (gP (dC, dI) (wC ad cA) (kC (dC, dI) cA) c sz [.ref (ad 0), .int a1]) (gQi (dC, dI) (wC ad cA) (fA 17 ad sz) r0 c) 0 0 (fA 17 ad sz) := by
  refine Met.ofW (cc := cX4_count) (maxL := 2) (ret := (some .int)) (by decide) rfl ?_
  intro p e s m args below meth cd s₁ B hml hv
  obtain ⟨rfl, rfl, hP, hK⟩ := hv
  have hx := B.exec
  have hb := B.bytes
  have hr := B.returns
  have hts := atoms_spec (ws := wsX4_count) B.pre
  have hown : s.vm.findClass RX4 = some m.cls := findClass_of_methodNamed B.named
  have hlocks := B.notSynchronized
  have hK1 : va_K (dC, dI) vwCl (tC cA) s := hK.1
  have hD : ∀ c, va_D (fA 17 ad s.heap.size) (wC ad cA c) := fun c => dC_ok hap cA c _
  have hS : va_S (fA 17 ad s.heap.size) s.heap s.heap [] := va_S.rf
  have i4 : ∀ w ∈ u_ws RX4 TX4 7, w ∈ wsX4_count := by decide +kernel
  have i0 : ∀ w ∈ u_ws RX0 TX0 9, w ∈ wsX4_count := by decide +kernel
  have i2 : ∀ w ∈ u_ws RX2 TX2 5, w ∈ wsX4_count := by decide +kernel
  have i3 : ∀ w ∈ u_ws RX3 TX3 9, w ∈ wsX4_count := by decide +kernel
  have f12 := hts (.fieldLink RX4 12 "StickyHeap" "space" "LStickyHeap$Space;") (by decide +kernel)
  have f19 := hts (.fieldLink RX4 19 "StickyHeap" "memory" "LStickyHeap$Memory;") (by decide +kernel)
  have f35 := hts (.fieldLink RX4 35 "StickyHeap" "collector" "LStickyHeap$Collector;") (by decide +kernel)
  have f78 := hts (.fieldLink RX4 78 "StickyHeap" "made" "I") (by decide +kernel)
  have f152 := hts (.fieldLink RX4 152 "StickyHeap$Space" "blocks" "I") (by decide +kernel)
  have f183 := hts (.fieldLink RX4 183 "StickyHeap$Memory" "over" "Z") (by decide +kernel)
  have f186 := hts (.fieldLink RX4 186 "StickyHeap$Collector" "gone" "I") (by decide +kernel)
  have f189 := hts (.fieldLink RX4 189 "StickyHeap$Collector" "minors" "I") (by decide +kernel)
  have f192 := hts (.fieldLink RX4 192 "StickyHeap$Collector" "fulls" "I") (by decide +kernel)
  have f195 := hts (.fieldLink RX4 195 "StickyHeap$Collector" "lookedAt" "I") (by decide +kernel)
  have hl := lv_entry [.ref (ad 0), .int a1] (n := 2) (Nat.le_of_ble_eq_true rfl)
  rw [lg_entry_eq]
  generalize (lg_sl [.ref (ad 0), .int a1] ++ List.replicate (2 - (lg_sl [.ref (ad 0), .int a1]).length) Slot.unset).toArray = ls at hl ⊢
  have hl : lv_has ls 2 [(0, .ref (ad 0)), (1, .int a1)] := hl
  have hP : va_P (dC, dI) vwCl (wC ad cA c) s.heap := hP
  unfold pX4_count at hM
  refine lv_iload_n hx hb dX4_count_0 rfl (lv_at hl 1 rfl) ?_
  by_cases e1_0 : a1 = 0
  · have hM := it_p e1_0 hM
    refine lv_tableIn (off := 63) (tgt := 64) hx hb dX4_count_1 (by rw [e1_0]; decide) (by rw [e1_0]; decide) (by rw [e1_0]; rfl) (by decide) ?_
    refine lv_aload_n hx hb dX4_count_64 rfl (lv_at hl 0 rfl) ?_
    refine gget (v := .ref (ad 1)) hx hb hts i4 hown hK1 hP 0 rfl rfl 0 (by decide) f12 rfl rfl dX4_count_65 ?_
    refine gget (v := .int (c.1 0 0)) hx hb hts i3 hown hK1 hP 1 rfl rfl 0 (by decide) f152 rfl rfl dX4_count_68 ?_
    exact W.iret hx hb hr (fun t ht hW => ⟨⟨_, _, rfl, ⟨pr1 hM, rfl⟩, hPt ht hP⟩, hS.F ht⟩) hS.2.2 dX4_count_71
  have hM := it_n e1_0 hM
  by_cases e1_1 : a1 = 1
  · have hM := it_p e1_1 hM
    refine lv_tableIn (off := 71) (tgt := 72) hx hb dX4_count_1 (by rw [e1_1]; decide) (by rw [e1_1]; decide) (by rw [e1_1]; rfl) (by decide) ?_
    refine lv_aload_n hx hb dX4_count_72 rfl (lv_at hl 0 rfl) ?_
    refine gget (v := .ref (ad 1)) hx hb hts i4 hown hK1 hP 0 rfl rfl 0 (by decide) f12 rfl rfl dX4_count_73 ?_
    refine lv_iconst (v := 1) hx hb dX4_count_76 (by decide) ?_
    obtain ⟨r2, h1, hM⟩ := bd1_some sm_ne hM
    refine gCi (gV (As := [.int 1]) (rest := []) ⟨hx, hb, hml, hown, hts⟩ (kX3_things l dC dI ad cA hap _ c 1 _ h1) (cwV 1 hts gX4_count_X3_things rfl rfl rfl (by decide +kernel) ⟨Nat.le_of_ble_eq_true rfl, Nat.le_of_ble_eq_true rfl⟩) (kC_st _ _) hK hP (va_recv hK1 hP (ci := 3) (q0 := 1) rfl rfl) rfl hl.1 rfl (Nat.le_of_ble_eq_true rfl) dX4_count_77 ⟨Nat.zero_le _, Nat.zero_le _⟩) hS (fun H locs hP hS => ?_)
    exact W.iret hx hb hr (fun t ht hW => ⟨⟨_, _, rfl, ⟨pr1 hM, rfl⟩, hPt ht hP⟩, hS.F ht⟩) hS.2.2 dX4_count_80
  have hM := it_n e1_1 hM
  by_cases e1_2 : a1 = 2
  · have hM := it_p e1_2 hM
    refine lv_tableIn (off := 80) (tgt := 81) hx hb dX4_count_1 (by rw [e1_2]; decide) (by rw [e1_2]; decide) (by rw [e1_2]; rfl) (by decide) ?_
    refine lv_aload_n hx hb dX4_count_81 rfl (lv_at hl 0 rfl) ?_
    refine gget (v := .ref (ad 1)) hx hb hts i4 hown hK1 hP 0 rfl rfl 0 (by decide) f12 rfl rfl dX4_count_82 ?_
    refine lv_iconst (v := 3) hx hb dX4_count_85 (by decide) ?_
    obtain ⟨r4, h3, hM⟩ := bd1_some sm_ne hM
    refine gCi (gV (As := [.int 3]) (rest := []) ⟨hx, hb, hml, hown, hts⟩ (kX3_things l dC dI ad cA hap _ c 3 _ h3) (cwV 1 hts gX4_count_X3_things rfl rfl rfl (by decide +kernel) ⟨Nat.le_of_ble_eq_true rfl, Nat.le_of_ble_eq_true rfl⟩) (kC_st _ _) hK hP (va_recv hK1 hP (ci := 3) (q0 := 1) rfl rfl) rfl hl.1 rfl (Nat.le_of_ble_eq_true rfl) dX4_count_86 ⟨Nat.zero_le _, Nat.zero_le _⟩) hS (fun H locs hP hS => ?_)
    exact W.iret hx hb hr (fun t ht hW => ⟨⟨_, _, rfl, ⟨pr1 hM, rfl⟩, hPt ht hP⟩, hS.F ht⟩) hS.2.2 dX4_count_89
  have hM := it_n e1_2 hM
  by_cases e1_3 : a1 = 3
  · have hM := it_p e1_3 hM
    refine lv_tableIn (off := 89) (tgt := 90) hx hb dX4_count_1 (by rw [e1_3]; decide) (by rw [e1_3]; decide) (by rw [e1_3]; rfl) (by decide) ?_
    refine lv_aload_n hx hb dX4_count_90 rfl (lv_at hl 0 rfl) ?_
    refine gget (v := .ref (ad 1)) hx hb hts i4 hown hK1 hP 0 rfl rfl 0 (by decide) f12 rfl rfl dX4_count_91 ?_
    obtain ⟨r6, h5, hM⟩ := bd1_some sm_ne hM
    refine gCi (gV (As := []) (rest := []) ⟨hx, hb, hml, hown, hts⟩ (kX3_freeBlocks l dC dI ad cA hap _ c _ h5) (cwV 0 hts gX4_count_X3_freeBlocks rfl rfl rfl (by decide +kernel) ⟨Nat.le_of_ble_eq_true rfl, Nat.le_of_ble_eq_true rfl⟩) (kC_st _ _) hK hP (va_recv hK1 hP (ci := 3) (q0 := 1) rfl rfl) rfl hl.1 rfl (Nat.le_of_ble_eq_true rfl) dX4_count_94 ⟨Nat.zero_le _, Nat.zero_le _⟩) hS (fun H locs hP hS => ?_)
    exact W.iret hx hb hr (fun t ht hW => ⟨⟨_, _, rfl, ⟨pr1 hM, rfl⟩, hPt ht hP⟩, hS.F ht⟩) hS.2.2 dX4_count_97
  have hM := it_n e1_3 hM
  by_cases e1_4 : a1 = 4
  · have hM := it_p e1_4 hM
    refine lv_tableIn (off := 97) (tgt := 98) hx hb dX4_count_1 (by rw [e1_4]; decide) (by rw [e1_4]; decide) (by rw [e1_4]; rfl) (by decide) ?_
    refine lv_aload_n hx hb dX4_count_98 rfl (lv_at hl 0 rfl) ?_
    refine gget (v := .ref (ad 1)) hx hb hts i4 hown hK1 hP 0 rfl rfl 0 (by decide) f12 rfl rfl dX4_count_99 ?_
    obtain ⟨r8, h7, hM⟩ := bd1_some sm_ne hM
    refine gCi (gV (As := []) (rest := []) ⟨hx, hb, hml, hown, hts⟩ (kX3_barredBlocks l dC dI ad cA hap _ c _ h7) (cwV 0 hts gX4_count_X3_barredBlocks rfl rfl rfl (by decide +kernel) ⟨Nat.le_of_ble_eq_true rfl, Nat.le_of_ble_eq_true rfl⟩) (kC_st _ _) hK hP (va_recv hK1 hP (ci := 3) (q0 := 1) rfl rfl) rfl hl.1 rfl (Nat.le_of_ble_eq_true rfl) dX4_count_102 ⟨Nat.zero_le _, Nat.zero_le _⟩) hS (fun H locs hP hS => ?_)
    exact W.iret hx hb hr (fun t ht hW => ⟨⟨_, _, rfl, ⟨pr1 hM, rfl⟩, hPt ht hP⟩, hS.F ht⟩) hS.2.2 dX4_count_105
  have hM := it_n e1_4 hM
  by_cases e1_5 : a1 = 5
  · have hM := it_p e1_5 hM
    refine lv_tableIn (off := 105) (tgt := 106) hx hb dX4_count_1 (by rw [e1_5]; decide) (by rw [e1_5]; decide) (by rw [e1_5]; rfl) (by decide) ?_
    refine lv_aload_n hx hb dX4_count_106 rfl (lv_at hl 0 rfl) ?_
    obtain ⟨r10, h9, hM⟩ := bd1_some sm_ne hM
    refine gCi (gV (As := []) (rest := []) ⟨hx, hb, hml, hown, hts⟩ (kX4_thingsInLog l dC dI ad cA hap _ c _ h9) (cwV 0 hts gX4_count_X4_thingsInLog rfl rfl rfl (by decide +kernel) ⟨Nat.le_of_ble_eq_true rfl, Nat.le_of_ble_eq_true rfl⟩) (kC_st _ _) hK hP (va_recv hK1 hP (ci := 4) (q0 := 0) rfl rfl) rfl hl.1 rfl (Nat.le_of_ble_eq_true rfl) dX4_count_107 ⟨Nat.zero_le _, Nat.zero_le _⟩) hS (fun H locs hP hS => ?_)
    exact W.iret hx hb hr (fun t ht hW => ⟨⟨_, _, rfl, ⟨pr1 hM, rfl⟩, hPt ht hP⟩, hS.F ht⟩) hS.2.2 dX4_count_110
  have hM := it_n e1_5 hM
  by_cases e1_6 : a1 = 6
  · have hM := it_p e1_6 hM
    refine lv_tableIn (off := 110) (tgt := 111) hx hb dX4_count_1 (by rw [e1_6]; decide) (by rw [e1_6]; decide) (by rw [e1_6]; rfl) (by decide) ?_
    refine lv_aload_n hx hb dX4_count_111 rfl (lv_at hl 0 rfl) ?_
    refine gget (v := .ref (ad 2)) hx hb hts i4 hown hK1 hP 0 rfl rfl 1 (by decide) f19 rfl rfl dX4_count_112 ?_
    refine gget (v := .int (c.1 0 4)) hx hb hts i2 hown hK1 hP 2 rfl rfl 3 (by decide) f183 rfl rfl dX4_count_115 ?_
    refine gCi (gS (As := [.int (c.1 0 4)]) (rest := []) ⟨hx, hb, hml, hown, hts⟩ (kX4_flag l dC dI ad cA hap _ c (c.1 0 4) _ rfl) (va_cwS 1 hts gX4_count_X4_flag rfl rfl rfl (by decide +kernel) ⟨Nat.le_of_ble_eq_true rfl, Nat.le_of_ble_eq_true rfl⟩) (kC_st _ _) hK hP rfl hl.1 rfl (Nat.le_of_ble_eq_true rfl) dX4_count_118 ⟨Nat.zero_le _, Nat.zero_le _⟩) hS (fun H locs hP hS => ?_)
    exact W.iret hx hb hr (fun t ht hW => ⟨⟨_, _, rfl, ⟨pr1 hM, rfl⟩, hPt ht hP⟩, hS.F ht⟩) hS.2.2 dX4_count_121
  have hM := it_n e1_6 hM
  by_cases e1_7 : a1 = 7
  · have hM := it_p e1_7 hM
    refine lv_tableIn (off := 121) (tgt := 122) hx hb dX4_count_1 (by rw [e1_7]; decide) (by rw [e1_7]; decide) (by rw [e1_7]; rfl) (by decide) ?_
    refine lv_aload_n hx hb dX4_count_122 rfl (lv_at hl 0 rfl) ?_
    refine gget (v := .int (c.1 0 13)) hx hb hts i4 hown hK1 hP 0 rfl rfl 6 (by decide) f78 rfl rfl dX4_count_123 ?_
    exact W.iret hx hb hr (fun t ht hW => ⟨⟨_, _, rfl, ⟨pr1 hM, rfl⟩, hPt ht hP⟩, hS.F ht⟩) hS.2.2 dX4_count_126
  have hM := it_n e1_7 hM
  by_cases e1_8 : a1 = 8
  · have hM := it_p e1_8 hM
    refine lv_tableIn (off := 126) (tgt := 127) hx hb dX4_count_1 (by rw [e1_8]; decide) (by rw [e1_8]; decide) (by rw [e1_8]; rfl) (by decide) ?_
    refine lv_aload_n hx hb dX4_count_127 rfl (lv_at hl 0 rfl) ?_
    refine gget (v := .ref (ad 4)) hx hb hts i4 hown hK1 hP 0 rfl rfl 3 (by decide) f35 rfl rfl dX4_count_128 ?_
    refine gget (v := .int (c.1 0 7)) hx hb hts i0 hown hK1 hP 4 rfl rfl 5 (by decide) f186 rfl rfl dX4_count_131 ?_
    exact W.iret hx hb hr (fun t ht hW => ⟨⟨_, _, rfl, ⟨pr1 hM, rfl⟩, hPt ht hP⟩, hS.F ht⟩) hS.2.2 dX4_count_134
  have hM := it_n e1_8 hM
  by_cases e1_9 : a1 = 9
  · have hM := it_p e1_9 hM
    refine lv_tableIn (off := 134) (tgt := 135) hx hb dX4_count_1 (by rw [e1_9]; decide) (by rw [e1_9]; decide) (by rw [e1_9]; rfl) (by decide) ?_
    refine lv_aload_n hx hb dX4_count_135 rfl (lv_at hl 0 rfl) ?_
    refine gget (v := .ref (ad 4)) hx hb hts i4 hown hK1 hP 0 rfl rfl 3 (by decide) f35 rfl rfl dX4_count_136 ?_
    refine gget (v := .int (c.1 0 8)) hx hb hts i0 hown hK1 hP 4 rfl rfl 6 (by decide) f189 rfl rfl dX4_count_139 ?_
    exact W.iret hx hb hr (fun t ht hW => ⟨⟨_, _, rfl, ⟨pr1 hM, rfl⟩, hPt ht hP⟩, hS.F ht⟩) hS.2.2 dX4_count_142
  have hM := it_n e1_9 hM
  by_cases e1_10 : a1 = 10
  · have hM := it_p e1_10 hM
    refine lv_tableIn (off := 142) (tgt := 143) hx hb dX4_count_1 (by rw [e1_10]; decide) (by rw [e1_10]; decide) (by rw [e1_10]; rfl) (by decide) ?_
    refine lv_aload_n hx hb dX4_count_143 rfl (lv_at hl 0 rfl) ?_
    refine gget (v := .ref (ad 4)) hx hb hts i4 hown hK1 hP 0 rfl rfl 3 (by decide) f35 rfl rfl dX4_count_144 ?_
    refine gget (v := .int (c.1 0 9)) hx hb hts i0 hown hK1 hP 4 rfl rfl 7 (by decide) f192 rfl rfl dX4_count_147 ?_
    exact W.iret hx hb hr (fun t ht hW => ⟨⟨_, _, rfl, ⟨pr1 hM, rfl⟩, hPt ht hP⟩, hS.F ht⟩) hS.2.2 dX4_count_150
  have hM := it_n e1_10 hM
  by_cases e1_11 : a1 = 11
  · have hM := it_p e1_11 hM
    refine lv_tableIn (off := 150) (tgt := 151) hx hb dX4_count_1 (by rw [e1_11]; decide) (by rw [e1_11]; decide) (by rw [e1_11]; rfl) (by decide) ?_
    refine lv_aload_n hx hb dX4_count_151 rfl (lv_at hl 0 rfl) ?_
    refine gget (v := .ref (ad 4)) hx hb hts i4 hown hK1 hP 0 rfl rfl 3 (by decide) f35 rfl rfl dX4_count_152 ?_
    refine gget (v := .int (c.1 0 10)) hx hb hts i0 hown hK1 hP 4 rfl rfl 8 (by decide) f195 rfl rfl dX4_count_155 ?_
    exact W.iret hx hb hr (fun t ht hW => ⟨⟨_, _, rfl, ⟨pr1 hM, rfl⟩, hPt ht hP⟩, hS.F ht⟩) hS.2.2 dX4_count_158
  have hM := it_n e1_11 hM
  refine lv_tableOut (tgt := 159) hx hb dX4_count_1 (tsw_out 11 (by decide) (fun k hk => ?_)) (by decide) ?_
  · rcases (show k = 0 ∨ k = 1 ∨ k = 2 ∨ k = 3 ∨ k = 4 ∨ k = 5 ∨ k = 6 ∨ k = 7 ∨ k = 8 ∨ k = 9 ∨ k = 10 ∨ k = 11 by omega) with rfl | rfl | rfl | rfl | rfl | rfl | rfl | rfl | rfl | rfl | rfl | rfl <;> assumption
  refine lv_bipush (v := (-102)) hx hb dX4_count_159 (by decide) ?_
  exact W.iret hx hb hr (fun t ht hW => ⟨⟨_, _, rfl, ⟨pr1 hM, rfl⟩, hPt ht hP⟩, hS.F ht⟩) hS.2.2 dX4_count_161
set_option maxHeartbeats 4000000 in
set_option maxRecDepth 100000 in
theorem kX4_mix (l : Launch) (dC : Nat → ClassId) (dI : Nat → Nat → Nat) (ad : Nat → Nat) (cA : Nat → ClassId) (hap : apart 17 ad) (sz : Nat) (c : HS) (a0 : Int64) (a2 : Int64) (r0 : Int64) (hM : pX4_mix a0 a2 = r0) : Met l yX4_mix wsX4_mix ({ frames := 0, cells := 0, slots := 0, locals := 0 }) (gP (dC, dI) (wC ad cA) (kC (dC, dI) cA) c sz [.long a0, .long a2]) (gQl (dC, dI) (wC ad cA) (fA 17 ad sz) r0 c) 0 0 (fA 17 ad sz) := by
  refine Met.ofW (cc := cX4_mix) (maxL := 4) (ret := (some .long)) (by decide) rfl ?_
  intro p e s m args below meth cd s₁ B hml hv
  obtain ⟨rfl, rfl, hP, hK⟩ := hv
  have hx := B.exec
  have hb := B.bytes
  have hr := B.returns
  have hts := atoms_spec (ws := wsX4_mix) B.pre
  have hown : s.vm.findClass RX4 = some m.cls := findClass_of_methodNamed B.named
  have hlocks := B.notSynchronized
  have hK1 : va_K (dC, dI) vwCl (tC cA) s := hK.1
  have hD : ∀ c, va_D (fA 17 ad s.heap.size) (wC ad cA c) := fun c => dC_ok hap cA c _
  have hS : va_S (fA 17 ad s.heap.size) s.heap s.heap [] := va_S.rf
  have hl := lv_entry [.long a0, .long a2] (n := 4) (Nat.le_of_ble_eq_true rfl)
  rw [lg_entry_eq]
  generalize (lg_sl [.long a0, .long a2] ++ List.replicate (4 - (lg_sl [.long a0, .long a2]).length) Slot.unset).toArray = ls at hl ⊢
  have hl : lv_has ls 4 [(0, .long a0), (2, .long a2)] := hl
  have hP : va_P (dC, dI) vwCl (wC ad cA c) s.heap := hP
  unfold pX4_mix at hM
  refine lv_ldc2 (v := 31) hx hb hown (hts (.constantLong RX4 218 (31)) (by decide +kernel)) dX4_mix_0 ?_
  refine lv_lload_n hx hb dX4_mix_3 rfl (lv_at hl 0 rfl) ?_
  refine lv_lmul hx hb dX4_mix_4 ?_
  refine lv_lload_n hx hb dX4_mix_5 rfl (lv_at hl 1 rfl) ?_
  refine lv_ladd hx hb dX4_mix_6 ?_
  exact W.lret hx hb hr (fun t ht hW => ⟨⟨_, _, rfl, ⟨hM, rfl⟩, hPt ht hP⟩, hS.F ht⟩) hS.2.2 dX4_mix_7
set_option maxHeartbeats 4000000 in
set_option maxRecDepth 100000 in
theorem kX4_mixThing (l : Launch) (dC : Nat → ClassId) (dI : Nat → Nat → Nat) (ad : Nat → Nat) (cA : Nat → ClassId) (hap : apart 17 ad) (sz : Nat) (c : HS) (a1 : Int64) (a3 : Int32) (r0 : Int64) (hM : pX4_mixThing c a1 a3 = some r0) : Met l yX4_mixThing wsX4_mixThing ({ frames := 3, cells := 0, slots := 0, locals := 63 }) (gP (dC, dI) (wC ad cA) (kC (dC, dI) cA) c sz [.ref (ad 0), .long a1, .int a3]) (gQl (dC, dI) (wC ad cA) (fA 17 ad sz) r0 c) 0 0 (fA 17 ad sz) := by
  refine Met.ofW (cc := cX4_mixThing) (maxL := 8) (ret := (some .long)) (by decide) rfl ?_
  intro p e s m args below meth cd s₁ B hml hv
  obtain ⟨rfl, rfl, hP, hK⟩ := hv
  have hx := B.exec
  have hb := B.bytes
  have hr := B.returns
  have hts := atoms_spec (ws := wsX4_mixThing) B.pre
  have hown : s.vm.findClass RX4 = some m.cls := findClass_of_methodNamed B.named
  have hlocks := B.notSynchronized
  have hK1 : va_K (dC, dI) vwCl (tC cA) s := hK.1
  have hD : ∀ c, va_D (fA 17 ad s.heap.size) (wC ad cA c) := fun c => dC_ok hap cA c _
  have hS : va_S (fA 17 ad s.heap.size) s.heap s.heap [] := va_S.rf
  have i4 : ∀ w ∈ u_ws RX4 TX4 7, w ∈ wsX4_mixThing := by decide +kernel
  have i3 : ∀ w ∈ u_ws RX3 TX3 9, w ∈ wsX4_mixThing := by decide +kernel
  have f12 := hts (.fieldLink RX4 12 "StickyHeap" "space" "LStickyHeap$Space;") (by decide +kernel)
  have f91 := hts (.fieldLink RX4 91 "StickyHeap$Space" "words" "[I") (by decide +kernel)
  have L59 : ∀ (v3 : Int32) (s0 : Int64) (s1 : Int32) (H : Heap) (locs : List Loc) (ls : Array Slot), pX4_mixThing_59 c v3 s0 s1 = some r0 → va_P (dC, dI) vwCl (wC ad cA c) H → va_S (fA 17 ad s.heap.size) s.heap H locs → lv_has ls 8 [(0, .ref (ad 0)), (3, .int v3)] → W p l e (headSpec wsX4_mixThing ({ frames := 3, cells := 0, slots := 0, locals := 63 })).room s m ([.ref (ad 0), .long a1, .int a3]).toArray below meth cd H locs 0 0 (MQ below (gQl (dC, dI) (wC ad cA) (fA 17 ad s.heap.size) r0 c) ([.ref (ad 0), .long a1, .int a3]).toArray s 0 0 (fA 17 ad s.heap.size)) (F0 m 59 ls [.int s1, .long s0]) := by
    have L81 : ∀ (n : Nat) (v3 : Int32) (v4 : Int64) (v6 : Int32) (v7 : Int32) (H : Heap) (locs : List Loc) (ls : Array Slot), pX4_mixThing_81 c n v3 v4 v6 v7 = some r0 → va_P (dC, dI) vwCl (wC ad cA c) H → va_S (fA 17 ad s.heap.size) s.heap H locs → lv_has ls 8 [(0, .ref (ad 0)), (3, .int v3), (4, .long v4), (6, .int v6), (7, .int v7)] → W p l e (headSpec wsX4_mixThing ({ frames := 3, cells := 0, slots := 0, locals := 63 })).room s m ([.ref (ad 0), .long a1, .int a3]).toArray below meth cd H locs 0 0 (MQ below (gQl (dC, dI) (wC ad cA) (fA 17 ad s.heap.size) r0 c) ([.ref (ad 0), .long a1, .int a3]).toArray s 0 0 (fA 17 ad s.heap.size)) (F0 m 81 ls []) := by
      intro n
      induction n with
      | zero =>
        intro v3 v4 v6 v7 H locs ls hM
        exact absurd (Eq.symm (hM : none = some r0)) sm_ne
      | succ n81 ih81 =>
        intro v3 v4 v6 v7 H locs ls hM hP hS hl
        unfold pX4_mixThing_81 at hM
        refine lv_iload hx hb dX4_mixThing_81 (lv_at hl 4 rfl) ?_
        refine lv_iload hx hb dX4_mixThing_83 (lv_at hl 3 rfl) ?_
        refine lv_icmp_ge (tgt := 114) hx hb dX4_mixThing_85 (by decide) (fun e3 => ?_) (fun e3 => ?_)
        · have hM := it_p e3 hM
          refine lv_lload hx hb dX4_mixThing_114 (lv_at hl 2 rfl) ?_
          exact W.lret hx hb hr (fun t ht hW => ⟨⟨_, _, rfl, ⟨pr1 hM, rfl⟩, hPt ht hP⟩, hS.F ht⟩) hS.2.2 dX4_mixThing_116
        · have hM := it_n e3 hM
          refine lv_lload hx hb dX4_mixThing_88 (lv_at hl 2 rfl) ?_
          refine lv_aload_n hx hb dX4_mixThing_90 rfl (lv_at hl 0 rfl) ?_
          refine gget (v := .ref (ad 1)) hx hb hts i4 hown hK1 hP 0 rfl rfl 0 (by decide) f12 rfl rfl dX4_mixThing_91 ?_
          refine gget (v := .ref (ad 8)) hx hb hts i3 hown hK1 hP 1 rfl rfl 5 (by decide) f91 rfl rfl dX4_mixThing_94 ?_
          refine lv_iload_n hx hb dX4_mixThing_97 rfl (lv_at hl 1 rfl) ?_
          refine lv_iload hx hb dX4_mixThing_98 (lv_at hl 4 rfl) ?_
          refine lv_iadd hx hb dX4_mixThing_100 ?_
          obtain ⟨h2, x1, hx1, hM⟩ := ldA_some sm_ne hM
          refine gald hx hb hK1 hP 8 3 rfl rfl h2 hx1 dX4_mixThing_101 ?_
          refine lv_i2l hx hb dX4_mixThing_102 rfl ?_
          refine gCl (gS (As := [.long v4, .long x1.toInt64]) (rest := []) ⟨hx, hb, hml, hown, hts⟩ (kX4_mix l dC dI ad cA hap _ c v4 x1.toInt64 _ rfl) (va_cwS 2 hts gX4_mixThing_X4_mix rfl rfl rfl (by decide +kernel) ⟨Nat.le_of_ble_eq_true rfl, Nat.le_of_ble_eq_true rfl⟩) (kC_st _ _) hK hP rfl hl.1 rfl (Nat.le_of_ble_eq_true rfl) dX4_mixThing_103 ⟨Nat.zero_le _, Nat.zero_le _⟩) hS (fun H locs hP hS => ?_)
          refine lv_lstore (lv' := [(4, .long (pX4_mix v4 x1.toInt64)), (0, .ref (ad 0)), (3, .int v3), (6, .int v6), (7, .int v7)]) hx hb dX4_mixThing_106 hl (by decide) rfl (fun ls hl => ?_)
          refine lv_iinc (v := v7 + 1) (lv' := [(7, .int (v7 + 1)), (4, .long (pX4_mix v4 x1.toInt64)), (0, .ref (ad 0)), (3, .int v3), (6, .int v6)]) hx hb dX4_mixThing_108 hl (k := 4) rfl rfl (by decide) rfl (fun ls hl => ?_)
          refine lv_goto (tgt := 81) hx hb dX4_mixThing_111 (by decide) ?_
          exact ih81 _ _ _ _ _ _ _ hM hP hS (lv_sub hl [2, 3, 1, 4, 0] rfl)
    intro v3 s0 s1 H locs ls hM hP hS hl
    unfold pX4_mixThing_59 at hM
    refine gCi (gS (As := [.int s1]) (rest := [.long s0]) ⟨hx, hb, hml, hown, hts⟩ (kX4_flag l dC dI ad cA hap _ c s1 _ rfl) (va_cwS 1 hts gX4_mixThing_X4_flag rfl rfl rfl (by decide +kernel) ⟨Nat.le_of_ble_eq_true rfl, Nat.le_of_ble_eq_true rfl⟩) (kC_st _ _) hK hP rfl hl.1 rfl (Nat.le_of_ble_eq_true rfl) dX4_mixThing_59 ⟨Nat.zero_le _, Nat.zero_le _⟩) hS (fun H locs hP hS => ?_)
    refine lv_i2l hx hb dX4_mixThing_62 rfl ?_
    refine gCl (gS (As := [.long s0, .long ((pX4_flag s1).toInt64)]) (rest := []) ⟨hx, hb, hml, hown, hts⟩ (kX4_mix l dC dI ad cA hap _ c s0 ((pX4_flag s1).toInt64) _ rfl) (va_cwS 2 hts gX4_mixThing_X4_mix rfl rfl rfl (by decide +kernel) ⟨Nat.le_of_ble_eq_true rfl, Nat.le_of_ble_eq_true rfl⟩) (kC_st _ _) hK hP rfl hl.1 rfl (Nat.le_of_ble_eq_true rfl) dX4_mixThing_63 ⟨Nat.zero_le _, Nat.zero_le _⟩) hS (fun H locs hP hS => ?_)
    refine lv_lstore (lv' := [(4, .long (pX4_mix s0 ((pX4_flag s1).toInt64))), (0, .ref (ad 0)), (3, .int v3)]) hx hb dX4_mixThing_66 hl (by decide) rfl (fun ls hl => ?_)
    refine lv_aload_n hx hb dX4_mixThing_68 rfl (lv_at hl 1 rfl) ?_
    refine gget (v := .ref (ad 1)) hx hb hts i4 hown hK1 hP 0 rfl rfl 0 (by decide) f12 rfl rfl dX4_mixThing_69 ?_
    refine lv_iload_n hx hb dX4_mixThing_72 rfl (lv_at hl 2 rfl) ?_
    obtain ⟨r5, h4, hM⟩ := bd1_some sm_ne hM
    refine gCi (gV (As := [.int v3]) (rest := []) ⟨hx, hb, hml, hown, hts⟩ (kX3_sizeOf l dC dI ad cA hap _ c v3 _ h4) (cwV 1 hts gX4_mixThing_X3_sizeOf rfl rfl rfl (by decide +kernel) ⟨Nat.le_of_ble_eq_true rfl, Nat.le_of_ble_eq_true rfl⟩) (kC_st _ _) hK hP (va_recv hK1 hP (ci := 3) (q0 := 1) rfl rfl) rfl hl.1 rfl (Nat.le_of_ble_eq_true rfl) dX4_mixThing_73 ⟨Nat.zero_le _, Nat.zero_le _⟩) hS (fun H locs hP hS => ?_)
    refine lv_istore (lv' := [(6, .int r5), (4, .long (pX4_mix s0 ((pX4_flag s1).toInt64))), (0, .ref (ad 0)), (3, .int v3)]) hx hb dX4_mixThing_76 hl (by decide) rfl (fun ls hl => ?_)
    refine lv_iconst (v := 0) hx hb dX4_mixThing_78 (by decide) ?_
    refine lv_istore (lv' := [(7, .int 0), (6, .int r5), (4, .long (pX4_mix s0 ((pX4_flag s1).toInt64))), (0, .ref (ad 0)), (3, .int v3)]) hx hb dX4_mixThing_79 hl (by decide) rfl (fun ls hl => ?_)
    exact L81 _ _ _ _ _ _ _ _ hM hP hS (lv_sub hl [3, 4, 2, 1, 0] rfl)
  have hl := lv_entry [.ref (ad 0), .long a1, .int a3] (n := 8) (Nat.le_of_ble_eq_true rfl)
  rw [lg_entry_eq]
  generalize (lg_sl [.ref (ad 0), .long a1, .int a3] ++ List.replicate (8 - (lg_sl [.ref (ad 0), .long a1, .int a3]).length) Slot.unset).toArray = ls at hl ⊢
  have hl : lv_has ls 8 [(0, .ref (ad 0)), (1, .long a1), (3, .int a3)] := hl
  have hP : va_P (dC, dI) vwCl (wC ad cA c) s.heap := hP
  unfold pX4_mixThing at hM
  refine lv_lload_n hx hb dX4_mixThing_0 rfl (lv_at hl 1 rfl) ?_
  refine lv_iload_n hx hb dX4_mixThing_1 rfl (lv_at hl 2 rfl) ?_
  refine lv_i2l hx hb dX4_mixThing_2 rfl ?_
  refine gCl (gS (As := [.long a1, .long a3.toInt64]) (rest := []) ⟨hx, hb, hml, hown, hts⟩ (kX4_mix l dC dI ad cA hap _ c a1 a3.toInt64 _ rfl) (va_cwS 2 hts gX4_mixThing_X4_mix rfl rfl rfl (by decide +kernel) ⟨Nat.le_of_ble_eq_true rfl, Nat.le_of_ble_eq_true rfl⟩) (kC_st _ _) hK hP rfl hl.1 rfl (Nat.le_of_ble_eq_true rfl) dX4_mixThing_3 ⟨Nat.zero_le _, Nat.zero_le _⟩) hS (fun H locs hP hS => ?_)
  refine lv_lstore (lv' := [(4, .long (pX4_mix a1 a3.toInt64)), (0, .ref (ad 0)), (1, .long a1), (3, .int a3)]) hx hb dX4_mixThing_6 hl (by decide) rfl (fun ls hl => ?_)
  refine lv_lload hx hb dX4_mixThing_8 (lv_at hl 0 rfl) ?_
  refine lv_aload_n hx hb dX4_mixThing_10 rfl (lv_at hl 1 rfl) ?_
  refine gget (v := .ref (ad 1)) hx hb hts i4 hown hK1 hP 0 rfl rfl 0 (by decide) f12 rfl rfl dX4_mixThing_11 ?_
  refine lv_iload_n hx hb dX4_mixThing_14 rfl (lv_at hl 3 rfl) ?_
  obtain ⟨r7, h6, hM⟩ := bd1_some sm_ne hM
  refine gCi (gV (As := [.int a3]) (rest := [.long (pX4_mix a1 a3.toInt64)]) ⟨hx, hb, hml, hown, hts⟩ (kX3_referencesOf l dC dI ad cA hap _ c a3 _ h6) (cwV 1 hts gX4_mixThing_X3_referencesOf rfl rfl rfl (by decide +kernel) ⟨Nat.le_of_ble_eq_true rfl, Nat.le_of_ble_eq_true rfl⟩) (kC_st _ _) hK hP (va_recv hK1 hP (ci := 3) (q0 := 1) rfl rfl) rfl hl.1 rfl (Nat.le_of_ble_eq_true rfl) dX4_mixThing_15 ⟨Nat.zero_le _, Nat.zero_le _⟩) hS (fun H locs hP hS => ?_)
  refine lv_i2l hx hb dX4_mixThing_18 rfl ?_
  refine gCl (gS (As := [.long (pX4_mix a1 a3.toInt64), .long r7.toInt64]) (rest := []) ⟨hx, hb, hml, hown, hts⟩ (kX4_mix l dC dI ad cA hap _ c (pX4_mix a1 a3.toInt64) r7.toInt64 _ rfl) (va_cwS 2 hts gX4_mixThing_X4_mix rfl rfl rfl (by decide +kernel) ⟨Nat.le_of_ble_eq_true rfl, Nat.le_of_ble_eq_true rfl⟩) (kC_st _ _) hK hP rfl hl.1 rfl (Nat.le_of_ble_eq_true rfl) dX4_mixThing_19 ⟨Nat.zero_le _, Nat.zero_le _⟩) hS (fun H locs hP hS => ?_)
  refine lv_lstore (lv' := [(4, .long (pX4_mix (pX4_mix a1 a3.toInt64) r7.toInt64)), (0, .ref (ad 0)), (1, .long a1), (3, .int a3)]) hx hb dX4_mixThing_22 hl (by decide) rfl (fun ls hl => ?_)
  refine lv_lload hx hb dX4_mixThing_24 (lv_at hl 0 rfl) ?_
  refine lv_aload_n hx hb dX4_mixThing_26 rfl (lv_at hl 1 rfl) ?_
  refine gget (v := .ref (ad 1)) hx hb hts i4 hown hK1 hP 0 rfl rfl 0 (by decide) f12 rfl rfl dX4_mixThing_27 ?_
  refine lv_iload_n hx hb dX4_mixThing_30 rfl (lv_at hl 3 rfl) ?_
  obtain ⟨r9, h8, hM⟩ := bd1_some sm_ne hM
  refine gCi (gV (As := [.int a3]) (rest := [.long (pX4_mix (pX4_mix a1 a3.toInt64) r7.toInt64)]) ⟨hx, hb, hml, hown, hts⟩ (kX3_numbersOf l dC dI ad cA hap _ c a3 _ h8) (cwV 1 hts gX4_mixThing_X3_numbersOf rfl rfl rfl (by decide +kernel) ⟨Nat.le_of_ble_eq_true rfl, Nat.le_of_ble_eq_true rfl⟩) (kC_st _ _) hK hP (va_recv hK1 hP (ci := 3) (q0 := 1) rfl rfl) rfl hl.1 rfl (Nat.le_of_ble_eq_true rfl) dX4_mixThing_31 ⟨Nat.zero_le _, Nat.zero_le _⟩) hS (fun H locs hP hS => ?_)
  refine lv_i2l hx hb dX4_mixThing_34 rfl ?_
  refine gCl (gS (As := [.long (pX4_mix (pX4_mix a1 a3.toInt64) r7.toInt64), .long r9.toInt64]) (rest := []) ⟨hx, hb, hml, hown, hts⟩ (kX4_mix l dC dI ad cA hap _ c (pX4_mix (pX4_mix a1 a3.toInt64) r7.toInt64) r9.toInt64 _ rfl) (va_cwS 2 hts gX4_mixThing_X4_mix rfl rfl rfl (by decide +kernel) ⟨Nat.le_of_ble_eq_true rfl, Nat.le_of_ble_eq_true rfl⟩) (kC_st _ _) hK hP rfl hl.1 rfl (Nat.le_of_ble_eq_true rfl) dX4_mixThing_35 ⟨Nat.zero_le _, Nat.zero_le _⟩) hS (fun H locs hP hS => ?_)
  refine lv_lstore (lv' := [(4, .long (pX4_mix (pX4_mix (pX4_mix a1 a3.toInt64) r7.toInt64) r9.toInt64)), (0, .ref (ad 0)), (1, .long a1), (3, .int a3)]) hx hb dX4_mixThing_38 hl (by decide) rfl (fun ls hl => ?_)
  refine lv_lload hx hb dX4_mixThing_40 (lv_at hl 0 rfl) ?_
  refine lv_aload_n hx hb dX4_mixThing_42 rfl (lv_at hl 1 rfl) ?_
  refine gget (v := .ref (ad 1)) hx hb hts i4 hown hK1 hP 0 rfl rfl 0 (by decide) f12 rfl rfl dX4_mixThing_43 ?_
  refine lv_iload_n hx hb dX4_mixThing_46 rfl (lv_at hl 3 rfl) ?_
  obtain ⟨r11, h10, hM⟩ := bd1_some sm_ne hM
  refine gCi (gV (As := [.int a3]) (rest := [.long (pX4_mix (pX4_mix (pX4_mix a1 a3.toInt64) r7.toInt64) r9.toInt64)]) ⟨hx, hb, hml, hown, hts⟩ (kX3_ageOf l dC dI ad cA hap _ c a3 _ h10) (cwV 1 hts gX4_mixThing_X3_ageOf rfl rfl rfl (by decide +kernel) ⟨Nat.le_of_ble_eq_true rfl, Nat.le_of_ble_eq_true rfl⟩) (kC_st _ _) hK hP (va_recv hK1 hP (ci := 3) (q0 := 1) rfl rfl) rfl hl.1 rfl (Nat.le_of_ble_eq_true rfl) dX4_mixThing_47 ⟨Nat.zero_le _, Nat.zero_le _⟩) hS (fun H locs hP hS => ?_)
  refine lv_iconst (v := 3) hx hb dX4_mixThing_50 (by decide) ?_
  refine lv_icmp_ne (tgt := 58) hx hb dX4_mixThing_51 (by decide) (fun e12 => ?_) (fun e12 => ?_)
  · have hM := it_n e12 hM
    refine lv_iconst (v := 0) hx hb dX4_mixThing_58 (by decide) ?_
    exact L59 _ _ _ _ _ _ hM hP hS (lv_sub hl [1, 3] rfl)
  · have hM := it_p e12 hM
    refine lv_iconst (v := 1) hx hb dX4_mixThing_54 (by decide) ?_
    refine lv_goto (tgt := 59) hx hb dX4_mixThing_55 (by decide) ?_
    exact L59 _ _ _ _ _ _ hM hP hS (lv_sub hl [1, 3] rfl)
set_option maxHeartbeats 4000000 in
set_option maxRecDepth 100000 in
theorem kX4_mixRow_14 (l : Launch) (dC : Nat → ClassId) (dI : Nat → Nat → Nat) (ad : Nat → Nat) (cA : Nat → ClassId) (hap : apart 17 ad) (sz : Nat) (c : HS) (a0 : Int64) (a3 : Int32) (r0 : Int64) (hM : pX4_mixRow_14 c a0 a3 = some r0) : Met l yX4_mixRow wsX4_mixRow ({ frames := 1, cells := 0, slots := 0, locals := 23 }) (gP (dC, dI) (wC ad cA) (kC (dC, dI) cA) c sz [.long a0, .ref (ad 14), .int a3]) (gQl (dC, dI) (wC ad cA) (fA 17 ad sz) r0 c) 0 0 (fA 17 ad sz) := by
  refine Met.ofW (cc := cX4_mixRow) (maxL := 7) (ret := (some .long)) (by decide) rfl ?_
  intro p e s m args below meth cd s₁ B hml hv
  obtain ⟨rfl, rfl, hP, hK⟩ := hv
  have hx := B.exec
  have hb := B.bytes
  have hr := B.returns
  have hts := atoms_spec (ws := wsX4_mixRow) B.pre
  have hown : s.vm.findClass RX4 = some m.cls := findClass_of_methodNamed B.named
  have hlocks := B.notSynchronized
  have hK1 : va_K (dC, dI) vwCl (tC cA) s := hK.1
  have hD : ∀ c, va_D (fA 17 ad s.heap.size) (wC ad cA c) := fun c => dC_ok hap cA c _
  have hS : va_S (fA 17 ad s.heap.size) s.heap s.heap [] := va_S.rf
  have L6 : ∀ (n : Nat) (v3 : Int32) (v4 : Int64) (v6 : Int32) (H : Heap) (locs : List Loc) (ls : Array Slot), pX4_mixRow_14_6 c n v3 v4 v6 = some r0 → va_P (dC, dI) vwCl (wC ad cA c) H → va_S (fA 17 ad s.heap.size) s.heap H locs → lv_has ls 7 [(2, .ref (ad 14)), (3, .int v3), (4, .long v4), (6, .int v6)] → W p l e (headSpec wsX4_mixRow ({ frames := 1, cells := 0, slots := 0, locals := 23 })).room s m ([.long a0, .ref (ad 14), .int a3]).toArray below meth cd H locs 0 0 (MQ below (gQl (dC, dI) (wC ad cA) (fA 17 ad s.heap.size) r0 c) ([.long a0, .ref (ad 14), .int a3]).toArray s 0 0 (fA 17 ad s.heap.size)) (F0 m 6 ls []) := by
    intro n
    induction n with
    | zero =>
      intro v3 v4 v6 H locs ls hM
      exact absurd (Eq.symm (hM : none = some r0)) sm_ne
    | succ n6 ih6 =>
      intro v3 v4 v6 H locs ls hM hP hS hl
      unfold pX4_mixRow_14_6 at hM
      refine lv_iload hx hb dX4_mixRow_6 (lv_at hl 3 rfl) ?_
      refine lv_iload_n hx hb dX4_mixRow_8 rfl (lv_at hl 1 rfl) ?_
      refine lv_icmp_ge (tgt := 37) hx hb dX4_mixRow_9 (by decide) (fun e4 => ?_) (fun e4 => ?_)
      · have hM := it_p e4 hM
        refine lv_lload hx hb dX4_mixRow_37 (lv_at hl 2 rfl) ?_
        exact W.lret hx hb hr (fun t ht hW => ⟨⟨_, _, rfl, ⟨pr1 hM, rfl⟩, hPt ht hP⟩, hS.F ht⟩) hS.2.2 dX4_mixRow_39
      · have hM := it_n e4 hM
        refine lv_iload hx hb dX4_mixRow_12 (lv_at hl 3 rfl) ?_
        refine lv_aload_n hx hb dX4_mixRow_14 rfl (lv_at hl 0 rfl) ?_
        refine va_alen (v := 10) hx hb hK1 hP 14 9 rfl rfl rfl dX4_mixRow_15 ?_
        refine lv_icmp_ge (tgt := 37) hx hb dX4_mixRow_16 (by decide) (fun e3 => ?_) (fun e3 => ?_)
        · have hM := it_p e3 hM
          refine lv_lload hx hb dX4_mixRow_37 (lv_at hl 2 rfl) ?_
          exact W.lret hx hb hr (fun t ht hW => ⟨⟨_, _, rfl, ⟨pr1 hM, rfl⟩, hPt ht hP⟩, hS.F ht⟩) hS.2.2 dX4_mixRow_39
        · have hM := it_n e3 hM
          refine lv_lload hx hb dX4_mixRow_19 (lv_at hl 2 rfl) ?_
          refine lv_aload_n hx hb dX4_mixRow_21 rfl (lv_at hl 0 rfl) ?_
          refine lv_iload hx hb dX4_mixRow_22 (lv_at hl 3 rfl) ?_
          obtain ⟨h2, x1, hx1, hM⟩ := ldA_some sm_ne hM
          refine gald hx hb hK1 hP 14 9 rfl rfl h2 hx1 dX4_mixRow_24 ?_
          refine lv_i2l hx hb dX4_mixRow_25 rfl ?_
          refine gCl (gS (As := [.long v4, .long x1.toInt64]) (rest := []) ⟨hx, hb, hml, hown, hts⟩ (kX4_mix l dC dI ad cA hap _ c v4 x1.toInt64 _ rfl) (va_cwS 2 hts gX4_mixRow_X4_mix rfl rfl rfl (by decide +kernel) ⟨Nat.le_of_ble_eq_true rfl, Nat.le_of_ble_eq_true rfl⟩) (kC_st _ _) hK hP rfl hl.1 rfl (Nat.le_of_ble_eq_true rfl) dX4_mixRow_26 ⟨Nat.zero_le _, Nat.zero_le _⟩) hS (fun H locs hP hS => ?_)
          refine lv_lstore (lv' := [(4, .long (pX4_mix v4 x1.toInt64)), (2, .ref (ad 14)), (3, .int v3), (6, .int v6)]) hx hb dX4_mixRow_29 hl (by decide) rfl (fun ls hl => ?_)
          refine lv_iinc (v := v6 + 1) (lv' := [(6, .int (v6 + 1)), (4, .long (pX4_mix v4 x1.toInt64)), (2, .ref (ad 14)), (3, .int v3)]) hx hb dX4_mixRow_31 hl (k := 3) rfl rfl (by decide) rfl (fun ls hl => ?_)
          refine lv_goto (tgt := 6) hx hb dX4_mixRow_34 (by decide) ?_
          exact ih6 _ _ _ _ _ _ hM hP hS (lv_sub hl [2, 3, 1, 0] rfl)
  have hl := lv_entry [.long a0, .ref (ad 14), .int a3] (n := 7) (Nat.le_of_ble_eq_true rfl)
  rw [lg_entry_eq]
  generalize (lg_sl [.long a0, .ref (ad 14), .int a3] ++ List.replicate (7 - (lg_sl [.long a0, .ref (ad 14), .int a3]).length) Slot.unset).toArray = ls at hl ⊢
  have hl : lv_has ls 7 [(0, .long a0), (2, .ref (ad 14)), (3, .int a3)] := hl
  have hP : va_P (dC, dI) vwCl (wC ad cA c) s.heap := hP
  unfold pX4_mixRow_14 at hM
  refine lv_lload_n hx hb dX4_mixRow_0 rfl (lv_at hl 0 rfl) ?_
  refine lv_lstore (lv' := [(4, .long a0), (0, .long a0), (2, .ref (ad 14)), (3, .int a3)]) hx hb dX4_mixRow_1 hl (by decide) rfl (fun ls hl => ?_)
  refine lv_iconst (v := 0) hx hb dX4_mixRow_3 (by decide) ?_
  refine lv_istore (lv' := [(6, .int 0), (4, .long a0), (0, .long a0), (2, .ref (ad 14)), (3, .int a3)]) hx hb dX4_mixRow_4 hl (by decide) rfl (fun ls hl => ?_)
  exact L6 _ _ _ _ _ _ _ hM hP hS (lv_sub hl [3, 4, 1, 0] rfl)
set_option maxHeartbeats 4000000 in
set_option maxRecDepth 100000 in
theorem kX4_mixRow_15 (l : Launch) (dC : Nat → ClassId) (dI : Nat → Nat → Nat) (ad : Nat → Nat) (cA : Nat → ClassId) (hap : apart 17 ad) (sz : Nat) (c : HS) (a0 : Int64) (a3 : Int32) (r0 : Int64) (hM : pX4_mixRow_15 c a0 a3 = some r0) : Met l yX4_mixRow wsX4_mixRow ({ frames := 1, cells := 0, slots := 0, locals := 23 }) (gP (dC, dI) (wC ad cA) (kC (dC, dI) cA) c sz [.long a0, .ref (ad 15), .int a3]) (gQl (dC, dI) (wC ad cA) (fA 17 ad sz) r0 c) 0 0 (fA 17 ad sz) := by
  refine Met.ofW (cc := cX4_mixRow) (maxL := 7) (ret := (some .long)) (by decide) rfl ?_
  intro p e s m args below meth cd s₁ B hml hv
  obtain ⟨rfl, rfl, hP, hK⟩ := hv
  have hx := B.exec
  have hb := B.bytes
  have hr := B.returns
  have hts := atoms_spec (ws := wsX4_mixRow) B.pre
  have hown : s.vm.findClass RX4 = some m.cls := findClass_of_methodNamed B.named
  have hlocks := B.notSynchronized
  have hK1 : va_K (dC, dI) vwCl (tC cA) s := hK.1
  have hD : ∀ c, va_D (fA 17 ad s.heap.size) (wC ad cA c) := fun c => dC_ok hap cA c _
  have hS : va_S (fA 17 ad s.heap.size) s.heap s.heap [] := va_S.rf
  have L6 : ∀ (n : Nat) (v3 : Int32) (v4 : Int64) (v6 : Int32) (H : Heap) (locs : List Loc) (ls : Array Slot), pX4_mixRow_15_6 c n v3 v4 v6 = some r0 → va_P (dC, dI) vwCl (wC ad cA c) H → va_S (fA 17 ad s.heap.size) s.heap H locs → lv_has ls 7 [(2, .ref (ad 15)), (3, .int v3), (4, .long v4), (6, .int v6)] → W p l e (headSpec wsX4_mixRow ({ frames := 1, cells := 0, slots := 0, locals := 23 })).room s m ([.long a0, .ref (ad 15), .int a3]).toArray below meth cd H locs 0 0 (MQ below (gQl (dC, dI) (wC ad cA) (fA 17 ad s.heap.size) r0 c) ([.long a0, .ref (ad 15), .int a3]).toArray s 0 0 (fA 17 ad s.heap.size)) (F0 m 6 ls []) := by
    intro n
    induction n with
    | zero =>
      intro v3 v4 v6 H locs ls hM
      exact absurd (Eq.symm (hM : none = some r0)) sm_ne
    | succ n6 ih6 =>
      intro v3 v4 v6 H locs ls hM hP hS hl
      unfold pX4_mixRow_15_6 at hM
      refine lv_iload hx hb dX4_mixRow_6 (lv_at hl 3 rfl) ?_
      refine lv_iload_n hx hb dX4_mixRow_8 rfl (lv_at hl 1 rfl) ?_
      refine lv_icmp_ge (tgt := 37) hx hb dX4_mixRow_9 (by decide) (fun e4 => ?_) (fun e4 => ?_)
      · have hM := it_p e4 hM
        refine lv_lload hx hb dX4_mixRow_37 (lv_at hl 2 rfl) ?_
        exact W.lret hx hb hr (fun t ht hW => ⟨⟨_, _, rfl, ⟨pr1 hM, rfl⟩, hPt ht hP⟩, hS.F ht⟩) hS.2.2 dX4_mixRow_39
      · have hM := it_n e4 hM
        refine lv_iload hx hb dX4_mixRow_12 (lv_at hl 3 rfl) ?_
        refine lv_aload_n hx hb dX4_mixRow_14 rfl (lv_at hl 0 rfl) ?_
        refine va_alen (v := 24) hx hb hK1 hP 15 10 rfl rfl rfl dX4_mixRow_15 ?_
        refine lv_icmp_ge (tgt := 37) hx hb dX4_mixRow_16 (by decide) (fun e3 => ?_) (fun e3 => ?_)
        · have hM := it_p e3 hM
          refine lv_lload hx hb dX4_mixRow_37 (lv_at hl 2 rfl) ?_
          exact W.lret hx hb hr (fun t ht hW => ⟨⟨_, _, rfl, ⟨pr1 hM, rfl⟩, hPt ht hP⟩, hS.F ht⟩) hS.2.2 dX4_mixRow_39
        · have hM := it_n e3 hM
          refine lv_lload hx hb dX4_mixRow_19 (lv_at hl 2 rfl) ?_
          refine lv_aload_n hx hb dX4_mixRow_21 rfl (lv_at hl 0 rfl) ?_
          refine lv_iload hx hb dX4_mixRow_22 (lv_at hl 3 rfl) ?_
          obtain ⟨h2, x1, hx1, hM⟩ := ldA_some sm_ne hM
          refine gald hx hb hK1 hP 15 10 rfl rfl h2 hx1 dX4_mixRow_24 ?_
          refine lv_i2l hx hb dX4_mixRow_25 rfl ?_
          refine gCl (gS (As := [.long v4, .long x1.toInt64]) (rest := []) ⟨hx, hb, hml, hown, hts⟩ (kX4_mix l dC dI ad cA hap _ c v4 x1.toInt64 _ rfl) (va_cwS 2 hts gX4_mixRow_X4_mix rfl rfl rfl (by decide +kernel) ⟨Nat.le_of_ble_eq_true rfl, Nat.le_of_ble_eq_true rfl⟩) (kC_st _ _) hK hP rfl hl.1 rfl (Nat.le_of_ble_eq_true rfl) dX4_mixRow_26 ⟨Nat.zero_le _, Nat.zero_le _⟩) hS (fun H locs hP hS => ?_)
          refine lv_lstore (lv' := [(4, .long (pX4_mix v4 x1.toInt64)), (2, .ref (ad 15)), (3, .int v3), (6, .int v6)]) hx hb dX4_mixRow_29 hl (by decide) rfl (fun ls hl => ?_)
          refine lv_iinc (v := v6 + 1) (lv' := [(6, .int (v6 + 1)), (4, .long (pX4_mix v4 x1.toInt64)), (2, .ref (ad 15)), (3, .int v3)]) hx hb dX4_mixRow_31 hl (k := 3) rfl rfl (by decide) rfl (fun ls hl => ?_)
          refine lv_goto (tgt := 6) hx hb dX4_mixRow_34 (by decide) ?_
          exact ih6 _ _ _ _ _ _ hM hP hS (lv_sub hl [2, 3, 1, 0] rfl)
  have hl := lv_entry [.long a0, .ref (ad 15), .int a3] (n := 7) (Nat.le_of_ble_eq_true rfl)
  rw [lg_entry_eq]
  generalize (lg_sl [.long a0, .ref (ad 15), .int a3] ++ List.replicate (7 - (lg_sl [.long a0, .ref (ad 15), .int a3]).length) Slot.unset).toArray = ls at hl ⊢
  have hl : lv_has ls 7 [(0, .long a0), (2, .ref (ad 15)), (3, .int a3)] := hl
  have hP : va_P (dC, dI) vwCl (wC ad cA c) s.heap := hP
  unfold pX4_mixRow_15 at hM
  refine lv_lload_n hx hb dX4_mixRow_0 rfl (lv_at hl 0 rfl) ?_
  refine lv_lstore (lv' := [(4, .long a0), (0, .long a0), (2, .ref (ad 15)), (3, .int a3)]) hx hb dX4_mixRow_1 hl (by decide) rfl (fun ls hl => ?_)
  refine lv_iconst (v := 0) hx hb dX4_mixRow_3 (by decide) ?_
  refine lv_istore (lv' := [(6, .int 0), (4, .long a0), (0, .long a0), (2, .ref (ad 15)), (3, .int a3)]) hx hb dX4_mixRow_4 hl (by decide) rfl (fun ls hl => ?_)
  exact L6 _ _ _ _ _ _ _ hM hP hS (lv_sub hl [3, 4, 1, 0] rfl)
set_option maxHeartbeats 4000000 in
set_option maxRecDepth 100000 in
theorem kX4_mixRow_12 (l : Launch) (dC : Nat → ClassId) (dI : Nat → Nat → Nat) (ad : Nat → Nat) (cA : Nat → ClassId) (hap : apart 17 ad) (sz : Nat) (c : HS) (a0 : Int64) (a3 : Int32) (r0 : Int64) (hM : pX4_mixRow_12 c a0 a3 = some r0) : Met l yX4_mixRow wsX4_mixRow ({ frames := 1, cells := 0, slots := 0, locals := 23 }) (gP (dC, dI) (wC ad cA) (kC (dC, dI) cA) c sz [.long a0, .ref (ad 12), .int a3]) (gQl (dC, dI) (wC ad cA) (fA 17 ad sz) r0 c) 0 0 (fA 17 ad sz) := by
  refine Met.ofW (cc := cX4_mixRow) (maxL := 7) (ret := (some .long)) (by decide) rfl ?_
  intro p e s m args below meth cd s₁ B hml hv
  obtain ⟨rfl, rfl, hP, hK⟩ := hv
  have hx := B.exec
  have hb := B.bytes
  have hr := B.returns
  have hts := atoms_spec (ws := wsX4_mixRow) B.pre
  have hown : s.vm.findClass RX4 = some m.cls := findClass_of_methodNamed B.named
  have hlocks := B.notSynchronized
  have hK1 : va_K (dC, dI) vwCl (tC cA) s := hK.1
  have hD : ∀ c, va_D (fA 17 ad s.heap.size) (wC ad cA c) := fun c => dC_ok hap cA c _
  have hS : va_S (fA 17 ad s.heap.size) s.heap s.heap [] := va_S.rf
  have L6 : ∀ (n : Nat) (v3 : Int32) (v4 : Int64) (v6 : Int32) (H : Heap) (locs : List Loc) (ls : Array Slot), pX4_mixRow_12_6 c n v3 v4 v6 = some r0 → va_P (dC, dI) vwCl (wC ad cA c) H → va_S (fA 17 ad s.heap.size) s.heap H locs → lv_has ls 7 [(2, .ref (ad 12)), (3, .int v3), (4, .long v4), (6, .int v6)] → W p l e (headSpec wsX4_mixRow ({ frames := 1, cells := 0, slots := 0, locals := 23 })).room s m ([.long a0, .ref (ad 12), .int a3]).toArray below meth cd H locs 0 0 (MQ below (gQl (dC, dI) (wC ad cA) (fA 17 ad s.heap.size) r0 c) ([.long a0, .ref (ad 12), .int a3]).toArray s 0 0 (fA 17 ad s.heap.size)) (F0 m 6 ls []) := by
    intro n
    induction n with
    | zero =>
      intro v3 v4 v6 H locs ls hM
      exact absurd (Eq.symm (hM : none = some r0)) sm_ne
    | succ n6 ih6 =>
      intro v3 v4 v6 H locs ls hM hP hS hl
      unfold pX4_mixRow_12_6 at hM
      refine lv_iload hx hb dX4_mixRow_6 (lv_at hl 3 rfl) ?_
      refine lv_iload_n hx hb dX4_mixRow_8 rfl (lv_at hl 1 rfl) ?_
      refine lv_icmp_ge (tgt := 37) hx hb dX4_mixRow_9 (by decide) (fun e4 => ?_) (fun e4 => ?_)
      · have hM := it_p e4 hM
        refine lv_lload hx hb dX4_mixRow_37 (lv_at hl 2 rfl) ?_
        exact W.lret hx hb hr (fun t ht hW => ⟨⟨_, _, rfl, ⟨pr1 hM, rfl⟩, hPt ht hP⟩, hS.F ht⟩) hS.2.2 dX4_mixRow_39
      · have hM := it_n e4 hM
        refine lv_iload hx hb dX4_mixRow_12 (lv_at hl 3 rfl) ?_
        refine lv_aload_n hx hb dX4_mixRow_14 rfl (lv_at hl 0 rfl) ?_
        refine va_alen (v := 12) hx hb hK1 hP 12 7 rfl rfl rfl dX4_mixRow_15 ?_
        refine lv_icmp_ge (tgt := 37) hx hb dX4_mixRow_16 (by decide) (fun e3 => ?_) (fun e3 => ?_)
        · have hM := it_p e3 hM
          refine lv_lload hx hb dX4_mixRow_37 (lv_at hl 2 rfl) ?_
          exact W.lret hx hb hr (fun t ht hW => ⟨⟨_, _, rfl, ⟨pr1 hM, rfl⟩, hPt ht hP⟩, hS.F ht⟩) hS.2.2 dX4_mixRow_39
        · have hM := it_n e3 hM
          refine lv_lload hx hb dX4_mixRow_19 (lv_at hl 2 rfl) ?_
          refine lv_aload_n hx hb dX4_mixRow_21 rfl (lv_at hl 0 rfl) ?_
          refine lv_iload hx hb dX4_mixRow_22 (lv_at hl 3 rfl) ?_
          obtain ⟨h2, x1, hx1, hM⟩ := ldA_some sm_ne hM
          refine gald hx hb hK1 hP 12 7 rfl rfl h2 hx1 dX4_mixRow_24 ?_
          refine lv_i2l hx hb dX4_mixRow_25 rfl ?_
          refine gCl (gS (As := [.long v4, .long x1.toInt64]) (rest := []) ⟨hx, hb, hml, hown, hts⟩ (kX4_mix l dC dI ad cA hap _ c v4 x1.toInt64 _ rfl) (va_cwS 2 hts gX4_mixRow_X4_mix rfl rfl rfl (by decide +kernel) ⟨Nat.le_of_ble_eq_true rfl, Nat.le_of_ble_eq_true rfl⟩) (kC_st _ _) hK hP rfl hl.1 rfl (Nat.le_of_ble_eq_true rfl) dX4_mixRow_26 ⟨Nat.zero_le _, Nat.zero_le _⟩) hS (fun H locs hP hS => ?_)
          refine lv_lstore (lv' := [(4, .long (pX4_mix v4 x1.toInt64)), (2, .ref (ad 12)), (3, .int v3), (6, .int v6)]) hx hb dX4_mixRow_29 hl (by decide) rfl (fun ls hl => ?_)
          refine lv_iinc (v := v6 + 1) (lv' := [(6, .int (v6 + 1)), (4, .long (pX4_mix v4 x1.toInt64)), (2, .ref (ad 12)), (3, .int v3)]) hx hb dX4_mixRow_31 hl (k := 3) rfl rfl (by decide) rfl (fun ls hl => ?_)
          refine lv_goto (tgt := 6) hx hb dX4_mixRow_34 (by decide) ?_
          exact ih6 _ _ _ _ _ _ hM hP hS (lv_sub hl [2, 3, 1, 0] rfl)
  have hl := lv_entry [.long a0, .ref (ad 12), .int a3] (n := 7) (Nat.le_of_ble_eq_true rfl)
  rw [lg_entry_eq]
  generalize (lg_sl [.long a0, .ref (ad 12), .int a3] ++ List.replicate (7 - (lg_sl [.long a0, .ref (ad 12), .int a3]).length) Slot.unset).toArray = ls at hl ⊢
  have hl : lv_has ls 7 [(0, .long a0), (2, .ref (ad 12)), (3, .int a3)] := hl
  have hP : va_P (dC, dI) vwCl (wC ad cA c) s.heap := hP
  unfold pX4_mixRow_12 at hM
  refine lv_lload_n hx hb dX4_mixRow_0 rfl (lv_at hl 0 rfl) ?_
  refine lv_lstore (lv' := [(4, .long a0), (0, .long a0), (2, .ref (ad 12)), (3, .int a3)]) hx hb dX4_mixRow_1 hl (by decide) rfl (fun ls hl => ?_)
  refine lv_iconst (v := 0) hx hb dX4_mixRow_3 (by decide) ?_
  refine lv_istore (lv' := [(6, .int 0), (4, .long a0), (0, .long a0), (2, .ref (ad 12)), (3, .int a3)]) hx hb dX4_mixRow_4 hl (by decide) rfl (fun ls hl => ?_)
  exact L6 _ _ _ _ _ _ _ hM hP hS (lv_sub hl [3, 4, 1, 0] rfl)
set_option maxHeartbeats 4000000 in
set_option maxRecDepth 100000 in
theorem kX4_digest (l : Launch) (dC : Nat → ClassId) (dI : Nat → Nat → Nat) (ad : Nat → Nat) (cA : Nat → ClassId) (hap : apart 17 ad) (sz : Nat) (c : HS) (r0 : Int64) (hM : pX4_digest c = some r0) : Met l yX4_digest wsX4_digest ({ frames := 4, cells := 0, slots := 0, locals := 90 }) (gP (dC, dI) (wC ad cA) (kC (dC, dI) cA) c sz [.ref (ad 0)]) (gQl (dC, dI) (wC ad cA) (fA 17 ad sz) r0 c) 0 0 (fA 17 ad sz) := by
  refine Met.ofW (cc := cX4_digest) (maxL := 4) (ret := (some .long)) (by decide) rfl ?_
  intro p e s m args below meth cd s₁ B hml hv
  obtain ⟨rfl, rfl, hP, hK⟩ := hv
  have hx := B.exec
  have hb := B.bytes
  have hr := B.returns
  have hts := atoms_spec (ws := wsX4_digest) B.pre
  have hown : s.vm.findClass RX4 = some m.cls := findClass_of_methodNamed B.named
  have hlocks := B.notSynchronized
  have hK1 : va_K (dC, dI) vwCl (tC cA) s := hK.1
  have hD : ∀ c, va_D (fA 17 ad s.heap.size) (wC ad cA c) := fun c => dC_ok hap cA c _
  have hS : va_S (fA 17 ad s.heap.size) s.heap s.heap [] := va_S.rf
  have i4 : ∀ w ∈ u_ws RX4 TX4 7, w ∈ wsX4_digest := by decide +kernel
  have i1 : ∀ w ∈ u_ws RX1 TX1 3, w ∈ wsX4_digest := by decide +kernel
  have i2 : ∀ w ∈ u_ws RX2 TX2 5, w ∈ wsX4_digest := by decide +kernel
  have i3 : ∀ w ∈ u_ws RX3 TX3 9, w ∈ wsX4_digest := by decide +kernel
  have f12 := hts (.fieldLink RX4 12 "StickyHeap" "space" "LStickyHeap$Space;") (by decide +kernel)
  have f19 := hts (.fieldLink RX4 19 "StickyHeap" "memory" "LStickyHeap$Memory;") (by decide +kernel)
  have f26 := hts (.fieldLink RX4 26 "StickyHeap" "holders" "LStickyHeap$Holders;") (by decide +kernel)
  have f130 := hts (.fieldLink RX4 130 "StickyHeap$Holders" "roots" "[I") (by decide +kernel)
  have f133 := hts (.fieldLink RX4 133 "StickyHeap$Holders" "height" "I") (by decide +kernel)
  have f136 := hts (.fieldLink RX4 136 "StickyHeap$Holders" "stack" "[I") (by decide +kernel)
  have f146 := hts (.fieldLink RX4 146 "StickyHeap$Memory" "size" "I") (by decide +kernel)
  have f149 := hts (.fieldLink RX4 149 "StickyHeap$Memory" "log" "[I") (by decide +kernel)
  have f152 := hts (.fieldLink RX4 152 "StickyHeap$Space" "blocks" "I") (by decide +kernel)
  have f155 := hts (.fieldLink RX4 155 "StickyHeap$Space" "sort" "[I") (by decide +kernel)
  have f165 := hts (.fieldLink RX4 165 "StickyHeap$Memory" "dirty" "[I") (by decide +kernel)
  have f168 := hts (.fieldLink RX4 168 "StickyHeap$Space" "barred" "[I") (by decide +kernel)
  have f183 := hts (.fieldLink RX4 183 "StickyHeap$Memory" "over" "Z") (by decide +kernel)
  have f204 := hts (.fieldLink RX4 204 "StickyHeap$Space" "limit" "I") (by decide +kernel)
  have L17 : ∀ (n : Nat) (v1 : Int64) (v3 : Int32) (H : Heap) (locs : List Loc) (ls : Array Slot), pX4_digest_17 c n v1 v3 = some r0 → va_P (dC, dI) vwCl (wC ad cA c) H → va_S (fA 17 ad s.heap.size) s.heap H locs → lv_has ls 4 [(0, .ref (ad 0)), (1, .long v1), (3, .int v3)] → W p l e (headSpec wsX4_digest ({ frames := 4, cells := 0, slots := 0, locals := 90 })).room s m ([.ref (ad 0)]).toArray below meth cd H locs 0 0 (MQ below (gQl (dC, dI) (wC ad cA) (fA 17 ad s.heap.size) r0 c) ([.ref (ad 0)]).toArray s 0 0 (fA 17 ad s.heap.size)) (F0 m 17 ls []) := by
    intro n
    induction n with
    | zero =>
      intro v1 v3 H locs ls hM
      exact absurd (Eq.symm (hM : none = some r0)) sm_ne
    | succ n17 ih17 =>
      have L87 : ∀ (n : Nat) (v1 : Int64) (v3 : Int32) (H : Heap) (locs : List Loc) (ls : Array Slot), pX4_digest_87 c n v1 v3 = some r0 → va_P (dC, dI) vwCl (wC ad cA c) H → va_S (fA 17 ad s.heap.size) s.heap H locs → lv_has ls 4 [(0, .ref (ad 0)), (1, .long v1), (3, .int v3)] → W p l e (headSpec wsX4_digest ({ frames := 4, cells := 0, slots := 0, locals := 90 })).room s m ([.ref (ad 0)]).toArray below meth cd H locs 0 0 (MQ below (gQl (dC, dI) (wC ad cA) (fA 17 ad s.heap.size) r0 c) ([.ref (ad 0)]).toArray s 0 0 (fA 17 ad s.heap.size)) (F0 m 87 ls []) := by
        intro n
        induction n with
        | zero =>
          intro v1 v3 H locs ls hM
          exact absurd (Eq.symm (hM : none = some r0)) sm_ne
        | succ n87 ih87 =>
          intro v1 v3 H locs ls hM hP hS hl
          unfold pX4_digest_87 at hM
          refine lv_iload_n hx hb dX4_digest_87 rfl (lv_at hl 2 rfl) ?_
          refine lv_aload_n hx hb dX4_digest_88 rfl (lv_at hl 0 rfl) ?_
          refine gget (v := .ref (ad 1)) hx hb hts i4 hown hK1 hP 0 rfl rfl 0 (by decide) f12 rfl rfl dX4_digest_89 ?_
          refine gget (v := .int (c.1 0 0)) hx hb hts i3 hown hK1 hP 1 rfl rfl 0 (by decide) f152 rfl rfl dX4_digest_92 ?_
          refine lv_icmp_ge (tgt := 145) hx hb dX4_digest_95 (by decide) (fun e9 => ?_) (fun e9 => ?_)
          · have hM := it_p e9 hM
            refine lv_lload_n hx hb dX4_digest_145 rfl (lv_at hl 1 rfl) ?_
            refine lv_aload_n hx hb dX4_digest_146 rfl (lv_at hl 0 rfl) ?_
            refine gget (v := .ref (ad 2)) hx hb hts i4 hown hK1 hP 0 rfl rfl 1 (by decide) f19 rfl rfl dX4_digest_147 ?_
            refine gget (v := .ref (ad 12)) hx hb hts i2 hown hK1 hP 2 rfl rfl 1 (by decide) f149 rfl rfl dX4_digest_150 ?_
            refine lv_aload_n hx hb dX4_digest_153 rfl (lv_at hl 0 rfl) ?_
            refine gget (v := .ref (ad 2)) hx hb hts i4 hown hK1 hP 0 rfl rfl 1 (by decide) f19 rfl rfl dX4_digest_154 ?_
            refine gget (v := .int (c.1 0 3)) hx hb hts i2 hown hK1 hP 2 rfl rfl 2 (by decide) f146 rfl rfl dX4_digest_157 ?_
            obtain ⟨r2, h1, hM⟩ := bd1_some sm_ne hM
            refine gCl (gS (As := [.long v1, .ref (ad 12), .int (c.1 0 3)]) (rest := []) ⟨hx, hb, hml, hown, hts⟩ (kX4_mixRow_12 l dC dI ad cA hap _ c v1 (c.1 0 3) _ h1) (va_cwS 3 hts gX4_digest_X4_mixRow rfl rfl rfl (by decide +kernel) ⟨Nat.le_of_ble_eq_true rfl, Nat.le_of_ble_eq_true rfl⟩) (kC_st _ _) hK hP rfl hl.1 rfl (Nat.le_of_ble_eq_true rfl) dX4_digest_160 ⟨Nat.zero_le _, Nat.zero_le _⟩) hS (fun H locs hP hS => ?_)
            refine lv_lstore_n (lv' := [(1, .long r2), (0, .ref (ad 0)), (3, .int v3)]) hx hb dX4_digest_163 rfl hl (by decide) rfl (fun ls hl => ?_)
            refine lv_lload_n hx hb dX4_digest_164 rfl (lv_at hl 0 rfl) ?_
            refine lv_aload_n hx hb dX4_digest_165 rfl (lv_at hl 1 rfl) ?_
            refine gget (v := .ref (ad 2)) hx hb hts i4 hown hK1 hP 0 rfl rfl 1 (by decide) f19 rfl rfl dX4_digest_166 ?_
            refine gget (v := .int (c.1 0 4)) hx hb hts i2 hown hK1 hP 2 rfl rfl 3 (by decide) f183 rfl rfl dX4_digest_169 ?_
            refine gCi (gS (As := [.int (c.1 0 4)]) (rest := [.long r2]) ⟨hx, hb, hml, hown, hts⟩ (kX4_flag l dC dI ad cA hap _ c (c.1 0 4) _ rfl) (va_cwS 1 hts gX4_digest_X4_flag rfl rfl rfl (by decide +kernel) ⟨Nat.le_of_ble_eq_true rfl, Nat.le_of_ble_eq_true rfl⟩) (kC_st _ _) hK hP rfl hl.1 rfl (Nat.le_of_ble_eq_true rfl) dX4_digest_172 ⟨Nat.zero_le _, Nat.zero_le _⟩) hS (fun H locs hP hS => ?_)
            refine lv_i2l hx hb dX4_digest_175 rfl ?_
            refine gCl (gS (As := [.long r2, .long ((pX4_flag (c.1 0 4)).toInt64)]) (rest := []) ⟨hx, hb, hml, hown, hts⟩ (kX4_mix l dC dI ad cA hap _ c r2 ((pX4_flag (c.1 0 4)).toInt64) _ rfl) (va_cwS 2 hts gX4_digest_X4_mix rfl rfl rfl (by decide +kernel) ⟨Nat.le_of_ble_eq_true rfl, Nat.le_of_ble_eq_true rfl⟩) (kC_st _ _) hK hP rfl hl.1 rfl (Nat.le_of_ble_eq_true rfl) dX4_digest_176 ⟨Nat.zero_le _, Nat.zero_le _⟩) hS (fun H locs hP hS => ?_)
            exact W.lret hx hb hr (fun t ht hW => ⟨⟨_, _, rfl, ⟨pr1 hM, rfl⟩, hPt ht hP⟩, hS.F ht⟩) hS.2.2 dX4_digest_179
          · have hM := it_n e9 hM
            refine lv_lload_n hx hb dX4_digest_98 rfl (lv_at hl 1 rfl) ?_
            refine lv_aload_n hx hb dX4_digest_99 rfl (lv_at hl 0 rfl) ?_
            refine gget (v := .ref (ad 1)) hx hb hts i4 hown hK1 hP 0 rfl rfl 0 (by decide) f12 rfl rfl dX4_digest_100 ?_
            refine gget (v := .ref (ad 5)) hx hb hts i3 hown hK1 hP 1 rfl rfl 2 (by decide) f155 rfl rfl dX4_digest_103 ?_
            refine lv_iload_n hx hb dX4_digest_106 rfl (lv_at hl 2 rfl) ?_
            obtain ⟨h4, x3, hx3, hM⟩ := ldA_some sm_ne hM
            refine gald hx hb hK1 hP 5 0 rfl rfl h4 hx3 dX4_digest_107 ?_
            refine lv_i2l hx hb dX4_digest_108 rfl ?_
            refine gCl (gS (As := [.long v1, .long x3.toInt64]) (rest := []) ⟨hx, hb, hml, hown, hts⟩ (kX4_mix l dC dI ad cA hap _ c v1 x3.toInt64 _ rfl) (va_cwS 2 hts gX4_digest_X4_mix rfl rfl rfl (by decide +kernel) ⟨Nat.le_of_ble_eq_true rfl, Nat.le_of_ble_eq_true rfl⟩) (kC_st _ _) hK hP rfl hl.1 rfl (Nat.le_of_ble_eq_true rfl) dX4_digest_109 ⟨Nat.zero_le _, Nat.zero_le _⟩) hS (fun H locs hP hS => ?_)
            refine lv_aload_n hx hb dX4_digest_112 rfl (lv_at hl 0 rfl) ?_
            refine gget (v := .ref (ad 2)) hx hb hts i4 hown hK1 hP 0 rfl rfl 1 (by decide) f19 rfl rfl dX4_digest_113 ?_
            refine gget (v := .ref (ad 13)) hx hb hts i2 hown hK1 hP 2 rfl rfl 4 (by decide) f165 rfl rfl dX4_digest_116 ?_
            refine lv_iload_n hx hb dX4_digest_119 rfl (lv_at hl 2 rfl) ?_
            obtain ⟨h6, x5, hx5, hM⟩ := ldA_some sm_ne hM
            refine gald hx hb hK1 hP 13 8 rfl rfl h6 hx5 dX4_digest_120 ?_
            refine lv_i2l hx hb dX4_digest_121 rfl ?_
            refine gCl (gS (As := [.long (pX4_mix v1 x3.toInt64), .long x5.toInt64]) (rest := []) ⟨hx, hb, hml, hown, hts⟩ (kX4_mix l dC dI ad cA hap _ c (pX4_mix v1 x3.toInt64) x5.toInt64 _ rfl) (va_cwS 2 hts gX4_digest_X4_mix rfl rfl rfl (by decide +kernel) ⟨Nat.le_of_ble_eq_true rfl, Nat.le_of_ble_eq_true rfl⟩) (kC_st _ _) hK hP rfl hl.1 rfl (Nat.le_of_ble_eq_true rfl) dX4_digest_122 ⟨Nat.zero_le _, Nat.zero_le _⟩) hS (fun H locs hP hS => ?_)
            refine lv_aload_n hx hb dX4_digest_125 rfl (lv_at hl 0 rfl) ?_
            refine gget (v := .ref (ad 1)) hx hb hts i4 hown hK1 hP 0 rfl rfl 0 (by decide) f12 rfl rfl dX4_digest_126 ?_
            refine gget (v := .ref (ad 7)) hx hb hts i3 hown hK1 hP 1 rfl rfl 4 (by decide) f168 rfl rfl dX4_digest_129 ?_
            refine lv_iload_n hx hb dX4_digest_132 rfl (lv_at hl 2 rfl) ?_
            obtain ⟨h8, x7, hx7, hM⟩ := ldA_some sm_ne hM
            refine gald hx hb hK1 hP 7 2 rfl rfl h8 hx7 dX4_digest_133 ?_
            refine lv_i2l hx hb dX4_digest_134 rfl ?_
            refine gCl (gS (As := [.long (pX4_mix (pX4_mix v1 x3.toInt64) x5.toInt64), .long x7.toInt64]) (rest := []) ⟨hx, hb, hml, hown, hts⟩ (kX4_mix l dC dI ad cA hap _ c (pX4_mix (pX4_mix v1 x3.toInt64) x5.toInt64) x7.toInt64 _ rfl) (va_cwS 2 hts gX4_digest_X4_mix rfl rfl rfl (by decide +kernel) ⟨Nat.le_of_ble_eq_true rfl, Nat.le_of_ble_eq_true rfl⟩) (kC_st _ _) hK hP rfl hl.1 rfl (Nat.le_of_ble_eq_true rfl) dX4_digest_135 ⟨Nat.zero_le _, Nat.zero_le _⟩) hS (fun H locs hP hS => ?_)
            refine lv_lstore_n (lv' := [(1, .long (pX4_mix (pX4_mix (pX4_mix v1 x3.toInt64) x5.toInt64) x7.toInt64)), (0, .ref (ad 0)), (3, .int v3)]) hx hb dX4_digest_138 rfl hl (by decide) rfl (fun ls hl => ?_)
            refine lv_iinc (v := v3 + 1) (lv' := [(3, .int (v3 + 1)), (1, .long (pX4_mix (pX4_mix (pX4_mix v1 x3.toInt64) x5.toInt64) x7.toInt64)), (0, .ref (ad 0))]) hx hb dX4_digest_139 hl (k := 2) rfl rfl (by decide) rfl (fun ls hl => ?_)
            refine lv_goto (tgt := 87) hx hb dX4_digest_142 (by decide) ?_
            exact ih87 _ _ _ _ _ hM hP hS (lv_sub hl [2, 1, 0] rfl)
      intro v1 v3 H locs ls hM hP hS hl
      unfold pX4_digest_17 at hM
      refine lv_iload_n hx hb dX4_digest_17 rfl (lv_at hl 2 rfl) ?_
      refine lv_aload_n hx hb dX4_digest_18 rfl (lv_at hl 0 rfl) ?_
      refine gget (v := .ref (ad 1)) hx hb hts i4 hown hK1 hP 0 rfl rfl 0 (by decide) f12 rfl rfl dX4_digest_19 ?_
      refine gget (v := .int (c.1 0 1)) hx hb hts i3 hown hK1 hP 1 rfl rfl 1 (by decide) f204 rfl rfl dX4_digest_22 ?_
      refine lv_icmp_ge (tgt := 52) hx hb dX4_digest_25 (by decide) (fun e19 => ?_) (fun e19 => ?_)
      · have hM := it_p e19 hM
        refine lv_lload_n hx hb dX4_digest_52 rfl (lv_at hl 1 rfl) ?_
        refine lv_aload_n hx hb dX4_digest_53 rfl (lv_at hl 0 rfl) ?_
        refine gget (v := .ref (ad 3)) hx hb hts i4 hown hK1 hP 0 rfl rfl 2 (by decide) f26 rfl rfl dX4_digest_54 ?_
        refine gget (v := .ref (ad 14)) hx hb hts i1 hown hK1 hP 3 rfl rfl 0 (by decide) f130 rfl rfl dX4_digest_57 ?_
        refine lv_bipush (v := 10) hx hb dX4_digest_60 (by decide) ?_
        obtain ⟨r11, h10, hM⟩ := bd1_some sm_ne hM
        refine gCl (gS (As := [.long v1, .ref (ad 14), .int 10]) (rest := []) ⟨hx, hb, hml, hown, hts⟩ (kX4_mixRow_14 l dC dI ad cA hap _ c v1 10 _ h10) (va_cwS 3 hts gX4_digest_X4_mixRow rfl rfl rfl (by decide +kernel) ⟨Nat.le_of_ble_eq_true rfl, Nat.le_of_ble_eq_true rfl⟩) (kC_st _ _) hK hP rfl hl.1 rfl (Nat.le_of_ble_eq_true rfl) dX4_digest_62 ⟨Nat.zero_le _, Nat.zero_le _⟩) hS (fun H locs hP hS => ?_)
        refine lv_lstore_n (lv' := [(1, .long r11), (0, .ref (ad 0)), (3, .int v3)]) hx hb dX4_digest_65 rfl hl (by decide) rfl (fun ls hl => ?_)
        refine lv_lload_n hx hb dX4_digest_66 rfl (lv_at hl 0 rfl) ?_
        refine lv_aload_n hx hb dX4_digest_67 rfl (lv_at hl 1 rfl) ?_
        refine gget (v := .ref (ad 3)) hx hb hts i4 hown hK1 hP 0 rfl rfl 2 (by decide) f26 rfl rfl dX4_digest_68 ?_
        refine gget (v := .ref (ad 15)) hx hb hts i1 hown hK1 hP 3 rfl rfl 1 (by decide) f136 rfl rfl dX4_digest_71 ?_
        refine lv_aload_n hx hb dX4_digest_74 rfl (lv_at hl 1 rfl) ?_
        refine gget (v := .ref (ad 3)) hx hb hts i4 hown hK1 hP 0 rfl rfl 2 (by decide) f26 rfl rfl dX4_digest_75 ?_
        refine gget (v := .int (c.1 0 5)) hx hb hts i1 hown hK1 hP 3 rfl rfl 2 (by decide) f133 rfl rfl dX4_digest_78 ?_
        obtain ⟨r13, h12, hM⟩ := bd1_some sm_ne hM
        refine gCl (gS (As := [.long r11, .ref (ad 15), .int (c.1 0 5)]) (rest := []) ⟨hx, hb, hml, hown, hts⟩ (kX4_mixRow_15 l dC dI ad cA hap _ c r11 (c.1 0 5) _ h12) (va_cwS 3 hts gX4_digest_X4_mixRow rfl rfl rfl (by decide +kernel) ⟨Nat.le_of_ble_eq_true rfl, Nat.le_of_ble_eq_true rfl⟩) (kC_st _ _) hK hP rfl hl.1 rfl (Nat.le_of_ble_eq_true rfl) dX4_digest_81 ⟨Nat.zero_le _, Nat.zero_le _⟩) hS (fun H locs hP hS => ?_)
        refine lv_lstore_n (lv' := [(1, .long r13), (0, .ref (ad 0)), (3, .int v3)]) hx hb dX4_digest_84 rfl hl (by decide) rfl (fun ls hl => ?_)
        refine lv_iconst (v := 0) hx hb dX4_digest_85 (by decide) ?_
        refine lv_istore_n (lv' := [(3, .int 0), (1, .long r13), (0, .ref (ad 0))]) hx hb dX4_digest_86 rfl hl (by decide) rfl (fun ls hl => ?_)
        exact L87 _ _ _ _ _ _ hM hP hS (lv_sub hl [2, 1, 0] rfl)
      · have hM := it_n e19 hM
        refine lv_aload_n hx hb dX4_digest_28 rfl (lv_at hl 0 rfl) ?_
        refine gget (v := .ref (ad 1)) hx hb hts i4 hown hK1 hP 0 rfl rfl 0 (by decide) f12 rfl rfl dX4_digest_29 ?_
        refine lv_iload_n hx hb dX4_digest_32 rfl (lv_at hl 2 rfl) ?_
        obtain ⟨r15, h14, hM⟩ := bd1_some sm_ne hM
        refine gCi (gV (As := [.int v3]) (rest := []) ⟨hx, hb, hml, hown, hts⟩ (kX3_isThing l dC dI ad cA hap _ c v3 _ h14) (cwV 1 hts gX4_digest_X3_isThing rfl rfl rfl (by decide +kernel) ⟨Nat.le_of_ble_eq_true rfl, Nat.le_of_ble_eq_true rfl⟩) (kC_st _ _) hK hP (va_recv hK1 hP (ci := 3) (q0 := 1) rfl rfl) rfl hl.1 rfl (Nat.le_of_ble_eq_true rfl) dX4_digest_33 ⟨Nat.zero_le _, Nat.zero_le _⟩) hS (fun H locs hP hS => ?_)
        refine lv_if_eq (tgt := 46) hx hb dX4_digest_36 (by decide) (fun e18 => ?_) (fun e18 => ?_)
        · have hM := it_p e18 hM
          refine lv_iinc (v := v3 + 2) (lv' := [(3, .int (v3 + 2)), (0, .ref (ad 0)), (1, .long v1)]) hx hb dX4_digest_46 hl (k := 2) rfl rfl (by decide) rfl (fun ls hl => ?_)
          refine lv_goto (tgt := 17) hx hb dX4_digest_49 (by decide) ?_
          exact ih17 _ _ _ _ _ hM hP hS (lv_sub hl [1, 2, 0] rfl)
        · have hM := it_n e18 hM
          refine lv_aload_n hx hb dX4_digest_39 rfl (lv_at hl 0 rfl) ?_
          refine lv_lload_n hx hb dX4_digest_40 rfl (lv_at hl 1 rfl) ?_
          refine lv_iload_n hx hb dX4_digest_41 rfl (lv_at hl 2 rfl) ?_
          obtain ⟨r17, h16, hM⟩ := bd1_some sm_ne hM
          refine gCl (gV (As := [.long v1, .int v3]) (rest := []) ⟨hx, hb, hml, hown, hts⟩ (kX4_mixThing l dC dI ad cA hap _ c v1 v3 _ h16) (cwV 2 hts gX4_digest_X4_mixThing rfl rfl rfl (by decide +kernel) ⟨Nat.le_of_ble_eq_true rfl, Nat.le_of_ble_eq_true rfl⟩) (kC_st _ _) hK hP (va_recv hK1 hP (ci := 4) (q0 := 0) rfl rfl) rfl hl.1 rfl (Nat.le_of_ble_eq_true rfl) dX4_digest_42 ⟨Nat.zero_le _, Nat.zero_le _⟩) hS (fun H locs hP hS => ?_)
          refine lv_lstore_n (lv' := [(1, .long r17), (0, .ref (ad 0)), (3, .int v3)]) hx hb dX4_digest_45 rfl hl (by decide) rfl (fun ls hl => ?_)
          refine lv_iinc (v := v3 + 2) (lv' := [(3, .int (v3 + 2)), (1, .long r17), (0, .ref (ad 0))]) hx hb dX4_digest_46 hl (k := 2) rfl rfl (by decide) rfl (fun ls hl => ?_)
          refine lv_goto (tgt := 17) hx hb dX4_digest_49 (by decide) ?_
          exact ih17 _ _ _ _ _ hM hP hS (lv_sub hl [2, 1, 0] rfl)
  have hl := lv_entry [.ref (ad 0)] (n := 4) (Nat.le_of_ble_eq_true rfl)
  rw [lg_entry_eq]
  generalize (lg_sl [.ref (ad 0)] ++ List.replicate (4 - (lg_sl [.ref (ad 0)]).length) Slot.unset).toArray = ls at hl ⊢
  have hl : lv_has ls 4 [(0, .ref (ad 0))] := hl
  have hP : va_P (dC, dI) vwCl (wC ad cA c) s.heap := hP
  unfold pX4_digest at hM
  refine lv_ldc2 (v := 43) hx hb hown (hts (.constantLong RX4 198 (43)) (by decide +kernel)) dX4_digest_0 ?_
  refine lv_aload_n hx hb dX4_digest_3 rfl (lv_at hl 0 rfl) ?_
  refine gget (v := .ref (ad 1)) hx hb hts i4 hown hK1 hP 0 rfl rfl 0 (by decide) f12 rfl rfl dX4_digest_4 ?_
  refine gget (v := .int (c.1 0 0)) hx hb hts i3 hown hK1 hP 1 rfl rfl 0 (by decide) f152 rfl rfl dX4_digest_7 ?_
  refine lv_i2l hx hb dX4_digest_10 rfl ?_
  refine gCl (gS (As := [.long 43, .long ((c.1 0 0).toInt64)]) (rest := []) ⟨hx, hb, hml, hown, hts⟩ (kX4_mix l dC dI ad cA hap _ c 43 ((c.1 0 0).toInt64) _ rfl) (va_cwS 2 hts gX4_digest_X4_mix rfl rfl rfl (by decide +kernel) ⟨Nat.le_of_ble_eq_true rfl, Nat.le_of_ble_eq_true rfl⟩) (kC_st _ _) hK hP rfl hl.1 rfl (Nat.le_of_ble_eq_true rfl) dX4_digest_11 ⟨Nat.zero_le _, Nat.zero_le _⟩) hS (fun H locs hP hS => ?_)
  refine lv_lstore_n (lv' := [(1, .long (pX4_mix 43 ((c.1 0 0).toInt64))), (0, .ref (ad 0))]) hx hb dX4_digest_14 rfl hl (by decide) rfl (fun ls hl => ?_)
  refine lv_iconst (v := 0) hx hb dX4_digest_15 (by decide) ?_
  refine lv_istore_n (lv' := [(3, .int 0), (1, .long (pX4_mix 43 ((c.1 0 0).toInt64))), (0, .ref (ad 0))]) hx hb dX4_digest_16 rfl hl (by decide) rfl (fun ls hl => ?_)
  exact L17 _ _ _ _ _ _ hM hP hS (lv_sub hl [2, 1, 0] rfl)
