set_option maxHeartbeats 4000000 in
set_option maxRecDepth 100000 in
theorem kX5_in (l : Launch) (dC : Nat → ClassId) (dI : Nat → Nat → Nat) (ad : Nat → Nat) (cA : Nat → ClassId) (hap : apart 15 ad) (sz : Nat) (c : HS) (a0 : Int32) (a1 : Int32) (a2 : Int32) (r0 : Int32) (hM : pX5_in a0 a1 a2 = r0) : Met l yX5_in wsX5_in ({ frames := 0, cells := 0, slots := 0, locals := 0 }) (gP (dC, dI) (wM ad cA) (kM (dC, dI) cA) c sz [.int a0, .int a1, .int a2]) (gQi (dC, dI) (wM ad cA) (fA 15 ad sz) r0 c) 0 0 (fA 15 ad sz) := by
  refine Met.ofW (cc := cX5_in) (maxL := 3) (ret := (some .boolean)) (by decide) rfl ?_
  intro p e s m args below meth cd s₁ B hml hv
  obtain ⟨rfl, rfl, hP, hK⟩ := hv
  have hx := B.exec
  have hb := B.bytes
  have hr := B.returns
  have hts := atoms_spec (ws := wsX5_in) B.pre
  have hown : s.vm.findClass RX5 = some m.cls := findClass_of_methodNamed B.named
  have hlocks := B.notSynchronized
  have hK1 : va_K (dC, dI) vwCl (tM cA) s := hK
  have hD : ∀ c, va_D (fA 15 ad s.heap.size) (wM ad cA c) := fun c => dM_ok hap cA c _
  have hS : va_S (fA 15 ad s.heap.size) s.heap s.heap [] := va_S.rf
  have hl := lv_entry [.int a0, .int a1, .int a2] (n := 3) (Nat.le_of_ble_eq_true rfl)
  rw [lg_entry_eq]
  generalize (lg_sl [.int a0, .int a1, .int a2] ++ List.replicate (3 - (lg_sl [.int a0, .int a1, .int a2]).length) Slot.unset).toArray = ls at hl ⊢
  have hl : lv_has ls 3 [(0, .int a0), (1, .int a1), (2, .int a2)] := hl
  have hP : va_P (dC, dI) vwCl (wM ad cA c) s.heap := hP
  unfold pX5_in at hM
  refine lv_iload_n hx hb dX5_in_0 rfl (lv_at hl 0 rfl) ?_
  refine lv_iload_n hx hb dX5_in_1 rfl (lv_at hl 1 rfl) ?_
  refine lv_icmp_lt (tgt := 14) hx hb dX5_in_2 (by decide) (fun e2 => ?_) (fun e2 => ?_)
  · have hM := it_p e2 hM
    refine lv_iconst (v := 0) hx hb dX5_in_14 (by decide) ?_
    exact W.zret hx hb hr rfl (fun t ht hW => ⟨⟨_, _, rfl, ⟨hM, rfl⟩, hPt ht hP⟩, hS.F ht⟩) hS.2.2 dX5_in_15
  · have hM := it_n e2 hM
    refine lv_iload_n hx hb dX5_in_5 rfl (lv_at hl 0 rfl) ?_
    refine lv_iload_n hx hb dX5_in_6 rfl (lv_at hl 2 rfl) ?_
    refine lv_icmp_gt (tgt := 14) hx hb dX5_in_7 (by decide) (fun e1 => ?_) (fun e1 => ?_)
    · have hM := it_p e1 hM
      refine lv_iconst (v := 0) hx hb dX5_in_14 (by decide) ?_
      exact W.zret hx hb hr rfl (fun t ht hW => ⟨⟨_, _, rfl, ⟨hM, rfl⟩, hPt ht hP⟩, hS.F ht⟩) hS.2.2 dX5_in_15
    · have hM := it_n e1 hM
      refine lv_iconst (v := 1) hx hb dX5_in_10 (by decide) ?_
      refine lv_goto (tgt := 15) hx hb dX5_in_11 (by decide) ?_
      exact W.zret hx hb hr rfl (fun t ht hW => ⟨⟨_, _, rfl, ⟨hM, rfl⟩, hPt ht hP⟩, hS.F ht⟩) hS.2.2 dX5_in_15
set_option maxHeartbeats 4000000 in
set_option maxRecDepth 100000 in
theorem kX5_things (l : Launch) (dC : Nat → ClassId) (dI : Nat → Nat → Nat) (ad : Nat → Nat) (cA : Nat → ClassId) (hap : apart 15 ad) (sz : Nat) (c : HS) (r0 : Int32) (hM : pX5_things c = some r0) : Met l yX5_things wsX5_things ({ frames := 0, cells := 0, slots := 0, locals := 0 }) (gP (dC, dI) (wM ad cA) (kM (dC, dI) cA) c sz [.ref (ad 0)]) (gQi (dC, dI) (wM ad cA) (fA 15 ad sz) r0 c) 0 0 (fA 15 ad sz) := by
  refine Met.ofW (cc := cX5_things) (maxL := 3) (ret := (some .int)) (by decide) rfl ?_
  intro p e s m args below meth cd s₁ B hml hv
  obtain ⟨rfl, rfl, hP, hK⟩ := hv
  have hx := B.exec
  have hb := B.bytes
  have hr := B.returns
  have hts := atoms_spec (ws := wsX5_things) B.pre
  have hown : s.vm.findClass RX5 = some m.cls := findClass_of_methodNamed B.named
  have hlocks := B.notSynchronized
  have hK1 : va_K (dC, dI) vwCl (tM cA) s := hK
  have hD : ∀ c, va_D (fA 15 ad s.heap.size) (wM ad cA c) := fun c => dM_ok hap cA c _
  have hS : va_S (fA 15 ad s.heap.size) s.heap s.heap [] := va_S.rf
  have i5 : ∀ w ∈ u_ws RX5 TX5 27, w ∈ wsX5_things := by decide +kernel
  have f7 := hts (.fieldLink RX5 7 "StickyHeapModel" "blocks" "I") (by decide +kernel)
  have f30 := hts (.fieldLink RX5 30 "StickyHeapModel" "begins" "[Z") (by decide +kernel)
  have L4 : ∀ (n : Nat) (v1 : Int32) (v2 : Int32) (H : Heap) (locs : List Loc) (ls : Array Slot), pX5_things_4 c n v1 v2 = some r0 → va_P (dC, dI) vwCl (wM ad cA c) H → va_S (fA 15 ad s.heap.size) s.heap H locs → lv_has ls 3 [(0, .ref (ad 0)), (1, .int v1), (2, .int v2)] → W p l e (headSpec wsX5_things ({ frames := 0, cells := 0, slots := 0, locals := 0 })).room s m ([.ref (ad 0)]).toArray below meth cd H locs 0 0 (MQ below (gQi (dC, dI) (wM ad cA) (fA 15 ad s.heap.size) r0 c) ([.ref (ad 0)]).toArray s 0 0 (fA 15 ad s.heap.size)) (F0 m 4 ls []) := by
    intro n
    induction n with
    | zero =>
      intro v1 v2 H locs ls hM
      exact absurd (Eq.symm (hM : none = some r0)) sm_ne
    | succ n4 ih4 =>
      intro v1 v2 H locs ls hM hP hS hl
      unfold pX5_things_4 at hM
      refine lv_iload_n hx hb dX5_things_4 rfl (lv_at hl 2 rfl) ?_
      refine lv_bipush (v := 64) hx hb dX5_things_5 (by decide) ?_
      refine lv_aload_n hx hb dX5_things_7 rfl (lv_at hl 0 rfl) ?_
      refine gget (v := .int (c.1 0 0)) hx hb hts i5 hown hK1 hP 0 rfl rfl 0 (by decide) f7 rfl rfl dX5_things_8 ?_
      refine lv_imul hx hb dX5_things_11 ?_
      refine lv_icmp_ge (tgt := 38) hx hb dX5_things_12 (by decide) (fun e4 => ?_) (fun e4 => ?_)
      · have hM := it_p e4 hM
        refine lv_iload_n hx hb dX5_things_38 rfl (lv_at hl 1 rfl) ?_
        exact W.iret hx hb hr (fun t ht hW => ⟨⟨_, _, rfl, ⟨pr1 hM, rfl⟩, hPt ht hP⟩, hS.F ht⟩) hS.2.2 dX5_things_39
      · have hM := it_n e4 hM
        refine lv_iload_n hx hb dX5_things_15 rfl (lv_at hl 1 rfl) ?_
        refine lv_aload_n hx hb dX5_things_16 rfl (lv_at hl 0 rfl) ?_
        refine gget (v := .ref (ad 6)) hx hb hts i5 hown hK1 hP 0 rfl rfl 6 (by decide) f30 rfl rfl dX5_things_17 ?_
        refine lv_iload_n hx hb dX5_things_20 rfl (lv_at hl 2 rfl) ?_
        obtain ⟨h2, x1, hx1, hM⟩ := ldA_some sm_ne hM
        refine gzld hx hb hK1 hP 6 5 rfl rfl h2 hx1 dX5_things_21 ?_
        refine lv_if_eq (tgt := 29) hx hb dX5_things_22 (by decide) (fun e3 => ?_) (fun e3 => ?_)
        · have hM := it_p e3 hM
          refine lv_iconst (v := 0) hx hb dX5_things_29 (by decide) ?_
          refine lv_iadd hx hb dX5_things_30 ?_
          refine lv_istore_n (lv' := [(1, .int (v1 + 0)), (0, .ref (ad 0)), (2, .int v2)]) hx hb dX5_things_31 rfl hl (by decide) rfl (fun ls hl => ?_)
          refine lv_iinc (v := v2 + 1) (lv' := [(2, .int (v2 + 1)), (1, .int (v1 + 0)), (0, .ref (ad 0))]) hx hb dX5_things_32 hl (k := 2) rfl rfl (by decide) rfl (fun ls hl => ?_)
          refine lv_goto (tgt := 4) hx hb dX5_things_35 (by decide) ?_
          exact ih4 _ _ _ _ _ hM hP hS (lv_sub hl [2, 1, 0] rfl)
        · have hM := it_n e3 hM
          refine lv_iconst (v := 1) hx hb dX5_things_25 (by decide) ?_
          refine lv_goto (tgt := 30) hx hb dX5_things_26 (by decide) ?_
          refine lv_iadd hx hb dX5_things_30 ?_
          refine lv_istore_n (lv' := [(1, .int (v1 + 1)), (0, .ref (ad 0)), (2, .int v2)]) hx hb dX5_things_31 rfl hl (by decide) rfl (fun ls hl => ?_)
          refine lv_iinc (v := v2 + 1) (lv' := [(2, .int (v2 + 1)), (1, .int (v1 + 1)), (0, .ref (ad 0))]) hx hb dX5_things_32 hl (k := 2) rfl rfl (by decide) rfl (fun ls hl => ?_)
          refine lv_goto (tgt := 4) hx hb dX5_things_35 (by decide) ?_
          exact ih4 _ _ _ _ _ hM hP hS (lv_sub hl [2, 1, 0] rfl)
  have hl := lv_entry [.ref (ad 0)] (n := 3) (Nat.le_of_ble_eq_true rfl)
  rw [lg_entry_eq]
  generalize (lg_sl [.ref (ad 0)] ++ List.replicate (3 - (lg_sl [.ref (ad 0)]).length) Slot.unset).toArray = ls at hl ⊢
  have hl : lv_has ls 3 [(0, .ref (ad 0))] := hl
  have hP : va_P (dC, dI) vwCl (wM ad cA c) s.heap := hP
  unfold pX5_things at hM
  refine lv_iconst (v := 0) hx hb dX5_things_0 (by decide) ?_
  refine lv_istore_n (lv' := [(1, .int 0), (0, .ref (ad 0))]) hx hb dX5_things_1 rfl hl (by decide) rfl (fun ls hl => ?_)
  refine lv_iconst (v := 0) hx hb dX5_things_2 (by decide) ?_
  refine lv_istore_n (lv' := [(2, .int 0), (1, .int 0), (0, .ref (ad 0))]) hx hb dX5_things_3 rfl hl (by decide) rfl (fun ls hl => ?_)
  exact L4 _ _ _ _ _ _ hM hP hS (lv_sub hl [2, 1, 0] rfl)
set_option maxHeartbeats 4000000 in
set_option maxRecDepth 100000 in
theorem kX5_open (l : Launch) (dC : Nat → ClassId) (dI : Nat → Nat → Nat) (ad : Nat → Nat) (cA : Nat → ClassId) (hap : apart 15 ad) (sz : Nat) (c : HS) (a1 : Int32) (r0 : Int32) (c9 : HS) (hM : pX5_open c a1 = some (r0, c9)) : Met l yX5_open wsX5_open ({ frames := 1, cells := 0, slots := 0, locals := 22 }) (gP (dC, dI) (wM ad cA) (kM (dC, dI) cA) c sz [.ref (ad 0), .int a1]) (gQi (dC, dI) (wM ad cA) (fA 15 ad sz) r0 c9) 0 0 (fA 15 ad sz) := by
  refine Met.ofW (cc := cX5_open) (maxL := 4) (ret := (some .int)) (by decide) rfl ?_
  intro p e s m args below meth cd s₁ B hml hv
  obtain ⟨rfl, rfl, hP, hK⟩ := hv
  have hx := B.exec
  have hb := B.bytes
  have hr := B.returns
  have hts := atoms_spec (ws := wsX5_open) B.pre
  have hown : s.vm.findClass RX5 = some m.cls := findClass_of_methodNamed B.named
  have hlocks := B.notSynchronized
  have hK1 : va_K (dC, dI) vwCl (tM cA) s := hK
  have hD : ∀ c, va_D (fA 15 ad s.heap.size) (wM ad cA c) := fun c => dM_ok hap cA c _
  have hS : va_S (fA 15 ad s.heap.size) s.heap s.heap [] := va_S.rf
  have i5 : ∀ w ∈ u_ws RX5 TX5 27, w ∈ wsX5_open := by decide +kernel
  have f7 := hts (.fieldLink RX5 7 "StickyHeapModel" "blocks" "I") (by decide +kernel)
  have f13 := hts (.fieldLink RX5 13 "StickyHeapModel" "sorts" "[I") (by decide +kernel)
  have f20 := hts (.fieldLink RX5 20 "StickyHeapModel" "dirty" "[Z") (by decide +kernel)
  have f24 := hts (.fieldLink RX5 24 "StickyHeapModel" "barred" "[Z") (by decide +kernel)
  have f30 := hts (.fieldLink RX5 30 "StickyHeapModel" "begins" "[Z") (by decide +kernel)
  have f45 := hts (.fieldLink RX5 45 "StickyHeapModel" "roots" "[I") (by decide +kernel)
  have f69 := hts (.fieldLink RX5 69 "StickyHeapModel" "deep" "I") (by decide +kernel)
  have f72 := hts (.fieldLink RX5 72 "StickyHeapModel" "logged" "I") (by decide +kernel)
  have f75 := hts (.fieldLink RX5 75 "StickyHeapModel" "isOver" "Z") (by decide +kernel)
  have f78 := hts (.fieldLink RX5 78 "StickyHeapModel" "seen" "I") (by decide +kernel)
  have L20 : ∀ (n : Nat) (c : HS) (v1 : Int32) (v2 : Int32) (v3 : Int32) (H : Heap) (locs : List Loc) (ls : Array Slot), pX5_open_20 n c v1 v2 v3 = some (r0, c9) → va_P (dC, dI) vwCl (wM ad cA c) H → va_S (fA 15 ad s.heap.size) s.heap H locs → lv_has ls 4 [(0, .ref (ad 0)), (1, .int v1), (2, .int v2), (3, .int v3)] → W p l e (headSpec wsX5_open ({ frames := 1, cells := 0, slots := 0, locals := 22 })).room s m ([.ref (ad 0), .int a1]).toArray below meth cd H locs 0 0 (MQ below (gQi (dC, dI) (wM ad cA) (fA 15 ad s.heap.size) r0 c9) ([.ref (ad 0), .int a1]).toArray s 0 0 (fA 15 ad s.heap.size)) (F0 m 20 ls []) := by
    intro n
    induction n with
    | zero =>
      intro c v1 v2 v3 H locs ls hM
      exact absurd (Eq.symm (hM : none = some (r0, c9))) sm_ne
    | succ n20 ih20 =>
      have L42 : ∀ (n : Nat) (c : HS) (v1 : Int32) (v2 : Int32) (v3 : Int32) (H : Heap) (locs : List Loc) (ls : Array Slot), pX5_open_42 n c v1 v2 v3 = some (r0, c9) → va_P (dC, dI) vwCl (wM ad cA c) H → va_S (fA 15 ad s.heap.size) s.heap H locs → lv_has ls 4 [(0, .ref (ad 0)), (1, .int v1), (2, .int v2), (3, .int v3)] → W p l e (headSpec wsX5_open ({ frames := 1, cells := 0, slots := 0, locals := 22 })).room s m ([.ref (ad 0), .int a1]).toArray below meth cd H locs 0 0 (MQ below (gQi (dC, dI) (wM ad cA) (fA 15 ad s.heap.size) r0 c9) ([.ref (ad 0), .int a1]).toArray s 0 0 (fA 15 ad s.heap.size)) (F0 m 42 ls []) := by
        intro n
        induction n with
        | zero =>
          intro c v1 v2 v3 H locs ls hM
          exact absurd (Eq.symm (hM : none = some (r0, c9))) sm_ne
        | succ n42 ih42 =>
          have L77 : ∀ (n : Nat) (c : HS) (v1 : Int32) (v2 : Int32) (v3 : Int32) (H : Heap) (locs : List Loc) (ls : Array Slot), pX5_open_77 n c v1 v2 v3 = some (r0, c9) → va_P (dC, dI) vwCl (wM ad cA c) H → va_S (fA 15 ad s.heap.size) s.heap H locs → lv_has ls 4 [(0, .ref (ad 0)), (1, .int v1), (2, .int v2), (3, .int v3)] → W p l e (headSpec wsX5_open ({ frames := 1, cells := 0, slots := 0, locals := 22 })).room s m ([.ref (ad 0), .int a1]).toArray below meth cd H locs 0 0 (MQ below (gQi (dC, dI) (wM ad cA) (fA 15 ad s.heap.size) r0 c9) ([.ref (ad 0), .int a1]).toArray s 0 0 (fA 15 ad s.heap.size)) (F0 m 77 ls []) := by
            intro n
            induction n with
            | zero =>
              intro c v1 v2 v3 H locs ls hM
              exact absurd (Eq.symm (hM : none = some (r0, c9))) sm_ne
            | succ n77 ih77 =>
              intro c v1 v2 v3 H locs ls hM hP hS hl
              unfold pX5_open_77 at hM
              refine lv_iload_n hx hb dX5_open_77 rfl (lv_at hl 3 rfl) ?_
              refine lv_bipush (v := 10) hx hb dX5_open_78 (by decide) ?_
              refine lv_icmp_ge (tgt := 96) hx hb dX5_open_80 (by decide) (fun e8 => ?_) (fun e8 => ?_)
              · have hM := it_p e8 hM
                refine lv_aload_n hx hb dX5_open_96 rfl (lv_at hl 0 rfl) ?_
                refine lv_iload_n hx hb dX5_open_97 rfl (lv_at hl 1 rfl) ?_
                obtain ⟨c1, hc1, hM⟩ := pfA_some hM
                refine gput (w := wM ad cA) (c := c) (c1 := c1) (v := .int v1) hx hb hts i5 tyX5 tyX5_ok nmX5 hown hK1 hP (hD c) hS 0 rfl rfl 0 (by decide) f7 rfl rfl rfl rfl (Nat.le_of_ble_eq_true rfl) (by rw [hc1]; rfl) dX5_open_98 (fun H locs hP hS => ?_)
                refine lv_aload_n hx hb dX5_open_101 rfl (lv_at hl 0 rfl) ?_
                refine lv_iconst (v := 0) hx hb dX5_open_102 (by decide) ?_
                obtain ⟨c2, hc2, hM⟩ := pfA_some hM
                refine gput (w := wM ad cA) (c := c1) (c1 := c2) (v := .int 0) hx hb hts i5 tyX5 tyX5_ok nmX5 hown hK1 hP (hD c1) hS 0 rfl rfl 13 (by decide) f69 rfl rfl rfl rfl (Nat.le_of_ble_eq_true rfl) (by rw [hc2]; rfl) dX5_open_103 (fun H locs hP hS => ?_)
                refine lv_aload_n hx hb dX5_open_106 rfl (lv_at hl 0 rfl) ?_
                refine lv_iconst (v := 0) hx hb dX5_open_107 (by decide) ?_
                obtain ⟨c3, hc3, hM⟩ := pfA_some hM
                refine gput (w := wM ad cA) (c := c2) (c1 := c3) (v := .int 0) hx hb hts i5 tyX5 tyX5_ok nmX5 hown hK1 hP (hD c2) hS 0 rfl rfl 15 (by decide) f72 rfl rfl rfl rfl (Nat.le_of_ble_eq_true rfl) (by rw [hc3]; rfl) dX5_open_108 (fun H locs hP hS => ?_)
                refine lv_aload_n hx hb dX5_open_111 rfl (lv_at hl 0 rfl) ?_
                refine lv_iconst (v := 0) hx hb dX5_open_112 (by decide) ?_
                obtain ⟨c4, hc4, hM⟩ := pfA_some hM
                refine gput (w := wM ad cA) (c := c3) (c1 := c4) (v := .int 0) hx hb hts i5 tyX5 tyX5_ok nmX5 hown hK1 hP (hD c3) hS 0 rfl rfl 16 (by decide) f75 rfl rfl rfl rfl (Nat.le_of_ble_eq_true rfl) (by rw [hc4]; rfl) dX5_open_113 (fun H locs hP hS => ?_)
                refine lv_aload_n hx hb dX5_open_116 rfl (lv_at hl 0 rfl) ?_
                refine lv_iconst (v := 0) hx hb dX5_open_117 (by decide) ?_
                obtain ⟨c5, hc5, hM⟩ := pfA_some hM
                refine gput (w := wM ad cA) (c := c4) (c1 := c5) (v := .int 0) hx hb hts i5 tyX5 tyX5_ok nmX5 hown hK1 hP (hD c4) hS 0 rfl rfl 19 (by decide) f78 rfl rfl rfl rfl (Nat.le_of_ble_eq_true rfl) (by rw [hc5]; rfl) dX5_open_118 (fun H locs hP hS => ?_)
                refine lv_iload_n hx hb dX5_open_121 rfl (lv_at hl 2 rfl) ?_
                exact W.iret hx hb hr (fun t ht hW => ⟨⟨_, _, rfl, pr2 hM, hPt ht hP⟩, hS.F ht⟩) hS.2.2 dX5_open_122
              · have hM := it_n e8 hM
                refine lv_aload_n hx hb dX5_open_83 rfl (lv_at hl 0 rfl) ?_
                refine gget (v := .ref (ad 11)) hx hb hts i5 hown hK1 hP 0 rfl rfl 11 (by decide) f45 rfl rfl dX5_open_84 ?_
                refine lv_iload_n hx hb dX5_open_87 rfl (lv_at hl 3 rfl) ?_
                refine lv_iconst (v := (-1)) hx hb dX5_open_88 (by decide) ?_
                obtain ⟨h7, c6, hc6, hM⟩ := stA_some sm_ne hM
                refine gast (w := wM ad cA) (c := c) (c1 := c6) hx hb hK1 hP (hD c) hS 11 10 rfl rfl h7 (by rw [hc6]; rfl) dX5_open_89 (fun H locs hP hS => ?_)
                refine lv_iinc (v := v3 + 1) (lv' := [(3, .int (v3 + 1)), (0, .ref (ad 0)), (1, .int v1), (2, .int v2)]) hx hb dX5_open_90 hl (k := 3) rfl rfl (by decide) rfl (fun ls hl => ?_)
                refine lv_goto (tgt := 77) hx hb dX5_open_93 (by decide) ?_
                exact ih77 _ _ _ _ _ _ _ hM hP hS (lv_sub hl [1, 2, 3, 0] rfl)
          intro c v1 v2 v3 H locs ls hM hP hS hl
          unfold pX5_open_42 at hM
          refine lv_iload_n hx hb dX5_open_42 rfl (lv_at hl 3 rfl) ?_
          refine lv_bipush (v := 24) hx hb dX5_open_43 (by decide) ?_
          refine lv_icmp_ge (tgt := 75) hx hb dX5_open_45 (by decide) (fun e15 => ?_) (fun e15 => ?_)
          · have hM := it_p e15 hM
            refine lv_iconst (v := 0) hx hb dX5_open_75 (by decide) ?_
            refine lv_istore_n (lv' := [(3, .int 0), (0, .ref (ad 0)), (1, .int v1), (2, .int v2)]) hx hb dX5_open_76 rfl hl (by decide) rfl (fun ls hl => ?_)
            exact L77 _ _ _ _ _ _ _ _ hM hP hS (lv_sub hl [1, 2, 3, 0] rfl)
          · have hM := it_n e15 hM
            refine lv_aload_n hx hb dX5_open_48 rfl (lv_at hl 0 rfl) ?_
            refine gget (v := .ref (ad 1)) hx hb hts i5 hown hK1 hP 0 rfl rfl 1 (by decide) f13 rfl rfl dX5_open_49 ?_
            refine lv_iload_n hx hb dX5_open_52 rfl (lv_at hl 3 rfl) ?_
            refine lv_iconst (v := 0) hx hb dX5_open_53 (by decide) ?_
            obtain ⟨h10, c9, hc9, hM⟩ := stA_some sm_ne hM
            refine gast (w := wM ad cA) (c := c) (c1 := c9) hx hb hK1 hP (hD c) hS 1 0 rfl rfl h10 (by rw [hc9]; rfl) dX5_open_54 (fun H locs hP hS => ?_)
            refine lv_aload_n hx hb dX5_open_55 rfl (lv_at hl 0 rfl) ?_
            refine gget (v := .ref (ad 3)) hx hb hts i5 hown hK1 hP 0 rfl rfl 3 (by decide) f20 rfl rfl dX5_open_56 ?_
            refine lv_iload_n hx hb dX5_open_59 rfl (lv_at hl 3 rfl) ?_
            refine lv_iconst (v := 0) hx hb dX5_open_60 (by decide) ?_
            obtain ⟨h12, h12z, c11, hc11, hM⟩ := stZ_some sm_ne hM
            refine gzst (w := wM ad cA) (c := c9) (c1 := c11) hx hb hK1 hP (hD c9) hS 3 2 rfl rfl h12 h12z (by rw [hc11]; rfl) dX5_open_61 (fun H locs hP hS => ?_)
            refine lv_aload_n hx hb dX5_open_62 rfl (lv_at hl 0 rfl) ?_
            refine gget (v := .ref (ad 4)) hx hb hts i5 hown hK1 hP 0 rfl rfl 4 (by decide) f24 rfl rfl dX5_open_63 ?_
            refine lv_iload_n hx hb dX5_open_66 rfl (lv_at hl 3 rfl) ?_
            refine lv_iconst (v := 0) hx hb dX5_open_67 (by decide) ?_
            obtain ⟨h14, h14z, c13, hc13, hM⟩ := stZ_some sm_ne hM
            refine gzst (w := wM ad cA) (c := c11) (c1 := c13) hx hb hK1 hP (hD c11) hS 4 3 rfl rfl h14 h14z (by rw [hc13]; rfl) dX5_open_68 (fun H locs hP hS => ?_)
            refine lv_iinc (v := v3 + 1) (lv' := [(3, .int (v3 + 1)), (0, .ref (ad 0)), (1, .int v1), (2, .int v2)]) hx hb dX5_open_69 hl (k := 3) rfl rfl (by decide) rfl (fun ls hl => ?_)
            refine lv_goto (tgt := 42) hx hb dX5_open_72 (by decide) ?_
            exact ih42 _ _ _ _ _ _ _ hM hP hS (lv_sub hl [1, 2, 3, 0] rfl)
      intro c v1 v2 v3 H locs ls hM hP hS hl
      unfold pX5_open_20 at hM
      refine lv_iload_n hx hb dX5_open_20 rfl (lv_at hl 3 rfl) ?_
      refine lv_sipush (v := 1536) hx hb dX5_open_21 (by decide) ?_
      refine lv_icmp_ge (tgt := 40) hx hb dX5_open_24 (by decide) (fun e18 => ?_) (fun e18 => ?_)
      · have hM := it_p e18 hM
        refine lv_iconst (v := 0) hx hb dX5_open_40 (by decide) ?_
        refine lv_istore_n (lv' := [(3, .int 0), (0, .ref (ad 0)), (1, .int v1), (2, .int v2)]) hx hb dX5_open_41 rfl hl (by decide) rfl (fun ls hl => ?_)
        exact L42 _ _ _ _ _ _ _ _ hM hP hS (lv_sub hl [1, 2, 3, 0] rfl)
      · have hM := it_n e18 hM
        refine lv_aload_n hx hb dX5_open_27 rfl (lv_at hl 0 rfl) ?_
        refine gget (v := .ref (ad 6)) hx hb hts i5 hown hK1 hP 0 rfl rfl 6 (by decide) f30 rfl rfl dX5_open_28 ?_
        refine lv_iload_n hx hb dX5_open_31 rfl (lv_at hl 3 rfl) ?_
        refine lv_iconst (v := 0) hx hb dX5_open_32 (by decide) ?_
        obtain ⟨h17, h17z, c16, hc16, hM⟩ := stZ_some sm_ne hM
        refine gzst (w := wM ad cA) (c := c) (c1 := c16) hx hb hK1 hP (hD c) hS 6 5 rfl rfl h17 h17z (by rw [hc16]; rfl) dX5_open_33 (fun H locs hP hS => ?_)
        refine lv_iinc (v := v3 + 1) (lv' := [(3, .int (v3 + 1)), (0, .ref (ad 0)), (1, .int v1), (2, .int v2)]) hx hb dX5_open_34 hl (k := 3) rfl rfl (by decide) rfl (fun ls hl => ?_)
        refine lv_goto (tgt := 20) hx hb dX5_open_37 (by decide) ?_
        exact ih20 _ _ _ _ _ _ _ hM hP hS (lv_sub hl [1, 2, 3, 0] rfl)
  have hl := lv_entry [.ref (ad 0), .int a1] (n := 4) (Nat.le_of_ble_eq_true rfl)
  rw [lg_entry_eq]
  generalize (lg_sl [.ref (ad 0), .int a1] ++ List.replicate (4 - (lg_sl [.ref (ad 0), .int a1]).length) Slot.unset).toArray = ls at hl ⊢
  have hl : lv_has ls 4 [(0, .ref (ad 0)), (1, .int a1)] := hl
  have hP : va_P (dC, dI) vwCl (wM ad cA c) s.heap := hP
  unfold pX5_open at hM
  refine lv_iload_n hx hb dX5_open_0 rfl (lv_at hl 1 rfl) ?_
  refine lv_iconst (v := 1) hx hb dX5_open_1 (by decide) ?_
  refine lv_bipush (v := 24) hx hb dX5_open_2 (by decide) ?_
  refine gCi (gS (As := [.int a1, .int 1, .int 24]) (rest := []) ⟨hx, hb, hml, hown, hts⟩ (kX5_in l dC dI ad cA hap _ c a1 1 24 _ rfl) (va_cwS 3 hts gX5_open_X5_in rfl rfl rfl (by decide +kernel) ⟨Nat.le_of_ble_eq_true rfl, Nat.le_of_ble_eq_true rfl⟩) (kM_st _ _) hK hP rfl hl.1 rfl (Nat.le_of_ble_eq_true rfl) dX5_open_4 ⟨Nat.zero_le _, Nat.zero_le _⟩) hS (fun H locs hP hS => ?_)
  refine lv_if_ne (tgt := 13) hx hb dX5_open_7 (by decide) (fun e21 => ?_) (fun e21 => ?_)
  · have hM := it_n e21 hM
    refine lv_aload_n hx hb dX5_open_13 rfl (lv_at hl 0 rfl) ?_
    obtain ⟨r20, h19, hM⟩ := bd1_some sm_ne hM
    refine gCi (gV (As := []) (rest := []) ⟨hx, hb, hml, hown, hts⟩ (kX5_things l dC dI ad cA hap _ c _ h19) (cwV 0 hts gX5_open_X5_things rfl rfl rfl (by decide +kernel) ⟨Nat.le_of_ble_eq_true rfl, Nat.le_of_ble_eq_true rfl⟩) (kM_st _ _) hK hP (va_recv hK1 hP (ci := 5) (q0 := 0) rfl rfl) rfl hl.1 rfl (Nat.le_of_ble_eq_true rfl) dX5_open_14 ⟨Nat.zero_le _, Nat.zero_le _⟩) hS (fun H locs hP hS => ?_)
    refine lv_istore_n (lv' := [(2, .int r20), (0, .ref (ad 0)), (1, .int a1)]) hx hb dX5_open_17 rfl hl (by decide) rfl (fun ls hl => ?_)
    refine lv_iconst (v := 0) hx hb dX5_open_18 (by decide) ?_
    refine lv_istore_n (lv' := [(3, .int 0), (2, .int r20), (0, .ref (ad 0)), (1, .int a1)]) hx hb dX5_open_19 rfl hl (by decide) rfl (fun ls hl => ?_)
    exact L20 _ _ _ _ _ _ _ _ hM hP hS (lv_sub hl [2, 3, 1, 0] rfl)
  · have hM := it_p e21 hM
    refine lv_bipush (v := (-102)) hx hb dX5_open_10 (by decide) ?_
    exact W.iret hx hb hr (fun t ht hW => ⟨⟨_, _, rfl, pr2 hM, hPt ht hP⟩, hS.F ht⟩) hS.2.2 dX5_open_12
set_option maxHeartbeats 4000000 in
set_option maxRecDepth 100000 in
theorem kX5_way (l : Launch) (dC : Nat → ClassId) (dI : Nat → Nat → Nat) (ad : Nat → Nat) (cA : Nat → ClassId) (hap : apart 15 ad) (sz : Nat) (c : HS) (a1 : Int32) (r0 : Int32) (c9 : HS) (hM : pX5_way c a1 = some (r0, c9)) : Met l yX5_way wsX5_way ({ frames := 1, cells := 0, slots := 0, locals := 22 }) (gP (dC, dI) (wM ad cA) (kM (dC, dI) cA) c sz [.ref (ad 0), .int a1]) (gQi (dC, dI) (wM ad cA) (fA 15 ad sz) r0 c9) 0 0 (fA 15 ad sz) := by
  refine Met.ofW (cc := cX5_way) (maxL := 3) (ret := (some .int)) (by decide) rfl ?_
  intro p e s m args below meth cd s₁ B hml hv
  obtain ⟨rfl, rfl, hP, hK⟩ := hv
  have hx := B.exec
  have hb := B.bytes
  have hr := B.returns
  have hts := atoms_spec (ws := wsX5_way) B.pre
  have hown : s.vm.findClass RX5 = some m.cls := findClass_of_methodNamed B.named
  have hlocks := B.notSynchronized
  have hK1 : va_K (dC, dI) vwCl (tM cA) s := hK
  have hD : ∀ c, va_D (fA 15 ad s.heap.size) (wM ad cA c) := fun c => dM_ok hap cA c _
  have hS : va_S (fA 15 ad s.heap.size) s.heap s.heap [] := va_S.rf
  have i5 : ∀ w ∈ u_ws RX5 TX5 27, w ∈ wsX5_way := by decide +kernel
  have f81 := hts (.fieldLink RX5 81 "StickyHeapModel" "way" "I") (by decide +kernel)
  have hl := lv_entry [.ref (ad 0), .int a1] (n := 3) (Nat.le_of_ble_eq_true rfl)
  rw [lg_entry_eq]
  generalize (lg_sl [.ref (ad 0), .int a1] ++ List.replicate (3 - (lg_sl [.ref (ad 0), .int a1]).length) Slot.unset).toArray = ls at hl ⊢
  have hl : lv_has ls 3 [(0, .ref (ad 0)), (1, .int a1)] := hl
  have hP : va_P (dC, dI) vwCl (wM ad cA c) s.heap := hP
  unfold pX5_way at hM
  refine lv_iload_n hx hb dX5_way_0 rfl (lv_at hl 1 rfl) ?_
  refine lv_iconst (v := 0) hx hb dX5_way_1 (by decide) ?_
  refine lv_iconst (v := 1) hx hb dX5_way_2 (by decide) ?_
  refine gCi (gS (As := [.int a1, .int 0, .int 1]) (rest := []) ⟨hx, hb, hml, hown, hts⟩ (kX5_in l dC dI ad cA hap _ c a1 0 1 _ rfl) (va_cwS 3 hts gX5_way_X5_in rfl rfl rfl (by decide +kernel) ⟨Nat.le_of_ble_eq_true rfl, Nat.le_of_ble_eq_true rfl⟩) (kM_st _ _) hK hP rfl hl.1 rfl (Nat.le_of_ble_eq_true rfl) dX5_way_3 ⟨Nat.zero_le _, Nat.zero_le _⟩) hS (fun H locs hP hS => ?_)
  refine lv_if_ne (tgt := 12) hx hb dX5_way_6 (by decide) (fun e5 => ?_) (fun e5 => ?_)
  · have hM := it_n e5 hM
    refine lv_aload_n hx hb dX5_way_12 rfl (lv_at hl 0 rfl) ?_
    obtain ⟨r2, h1, hM⟩ := bd1_some sm_ne hM
    refine gCi (gV (As := []) (rest := []) ⟨hx, hb, hml, hown, hts⟩ (kX5_things l dC dI ad cA hap _ c _ h1) (cwV 0 hts gX5_way_X5_things rfl rfl rfl (by decide +kernel) ⟨Nat.le_of_ble_eq_true rfl, Nat.le_of_ble_eq_true rfl⟩) (kM_st _ _) hK hP (va_recv hK1 hP (ci := 5) (q0 := 0) rfl rfl) rfl hl.1 rfl (Nat.le_of_ble_eq_true rfl) dX5_way_13 ⟨Nat.zero_le _, Nat.zero_le _⟩) hS (fun H locs hP hS => ?_)
    refine lv_if_le (tgt := 22) hx hb dX5_way_16 (by decide) (fun e4 => ?_) (fun e4 => ?_)
    · have hM := it_p e4 hM
      refine lv_aload_n hx hb dX5_way_22 rfl (lv_at hl 0 rfl) ?_
      refine gget (v := .int (c.1 0 5)) hx hb hts i5 hown hK1 hP 0 rfl rfl 18 (by decide) f81 rfl rfl dX5_way_23 ?_
      refine lv_istore_n (lv' := [(2, .int (c.1 0 5)), (0, .ref (ad 0)), (1, .int a1)]) hx hb dX5_way_26 rfl hl (by decide) rfl (fun ls hl => ?_)
      refine lv_aload_n hx hb dX5_way_27 rfl (lv_at hl 1 rfl) ?_
      refine lv_iload_n hx hb dX5_way_28 rfl (lv_at hl 2 rfl) ?_
      obtain ⟨c3, hc3, hM⟩ := pfA_some hM
      refine gput (w := wM ad cA) (c := c) (c1 := c3) (v := .int a1) hx hb hts i5 tyX5 tyX5_ok nmX5 hown hK1 hP (hD c) hS 0 rfl rfl 18 (by decide) f81 rfl rfl rfl rfl (Nat.le_of_ble_eq_true rfl) (by rw [hc3]; rfl) dX5_way_29 (fun H locs hP hS => ?_)
      refine lv_iload_n hx hb dX5_way_32 rfl (lv_at hl 0 rfl) ?_
      exact W.iret hx hb hr (fun t ht hW => ⟨⟨_, _, rfl, pr2 hM, hPt ht hP⟩, hS.F ht⟩) hS.2.2 dX5_way_33
    · have hM := it_n e4 hM
      refine lv_bipush (v := (-103)) hx hb dX5_way_19 (by decide) ?_
      exact W.iret hx hb hr (fun t ht hW => ⟨⟨_, _, rfl, pr2 hM, hPt ht hP⟩, hS.F ht⟩) hS.2.2 dX5_way_21
  · have hM := it_p e5 hM
    refine lv_bipush (v := (-102)) hx hb dX5_way_9 (by decide) ?_
    exact W.iret hx hb hr (fun t ht hW => ⟨⟨_, _, rfl, pr2 hM, hPt ht hP⟩, hS.F ht⟩) hS.2.2 dX5_way_11
set_option maxHeartbeats 4000000 in
set_option maxRecDepth 100000 in
theorem kX5_auto (l : Launch) (dC : Nat → ClassId) (dI : Nat → Nat → Nat) (ad : Nat → Nat) (cA : Nat → ClassId) (hap : apart 15 ad) (sz : Nat) (c : HS) (a1 : Int32) (r0 : Int32) (c9 : HS) (hM : pX5_auto c a1 = some (r0, c9)) : Met l yX5_auto wsX5_auto ({ frames := 0, cells := 0, slots := 0, locals := 0 }) (gP (dC, dI) (wM ad cA) (kM (dC, dI) cA) c sz [.ref (ad 0), .int a1]) (gQi (dC, dI) (wM ad cA) (fA 15 ad sz) r0 c9) 0 0 (fA 15 ad sz) := by
  refine Met.ofW (cc := cX5_auto) (maxL := 3) (ret := (some .int)) (by decide) rfl ?_
  intro p e s m args below meth cd s₁ B hml hv
  obtain ⟨rfl, rfl, hP, hK⟩ := hv
  have hx := B.exec
  have hb := B.bytes
  have hr := B.returns
  have hts := atoms_spec (ws := wsX5_auto) B.pre
  have hown : s.vm.findClass RX5 = some m.cls := findClass_of_methodNamed B.named
  have hlocks := B.notSynchronized
  have hK1 : va_K (dC, dI) vwCl (tM cA) s := hK
  have hD : ∀ c, va_D (fA 15 ad s.heap.size) (wM ad cA c) := fun c => dM_ok hap cA c _
  have hS : va_S (fA 15 ad s.heap.size) s.heap s.heap [] := va_S.rf
  have i5 : ∀ w ∈ u_ws RX5 TX5 27, w ∈ wsX5_auto := by decide +kernel
  have f54 := hts (.fieldLink RX5 54 "StickyHeapModel" "isAuto" "Z") (by decide +kernel)
  have hl := lv_entry [.ref (ad 0), .int a1] (n := 3) (Nat.le_of_ble_eq_true rfl)
  rw [lg_entry_eq]
  generalize (lg_sl [.ref (ad 0), .int a1] ++ List.replicate (3 - (lg_sl [.ref (ad 0), .int a1]).length) Slot.unset).toArray = ls at hl ⊢
  have hl : lv_has ls 3 [(0, .ref (ad 0)), (1, .int a1)] := hl
  have hP : va_P (dC, dI) vwCl (wM ad cA c) s.heap := hP
  unfold pX5_auto at hM
  refine lv_aload_n hx hb dX5_auto_0 rfl (lv_at hl 0 rfl) ?_
  refine gget (v := .int (c.1 0 4)) hx hb hts i5 hown hK1 hP 0 rfl rfl 17 (by decide) f54 rfl rfl dX5_auto_1 ?_
  refine lv_if_eq (tgt := 11) hx hb dX5_auto_4 (by decide) (fun e5 => ?_) (fun e5 => ?_)
  · have hM := it_p e5 hM
    refine lv_iconst (v := 0) hx hb dX5_auto_11 (by decide) ?_
    refine lv_istore_n (lv' := [(2, .int 0), (0, .ref (ad 0)), (1, .int a1)]) hx hb dX5_auto_12 rfl hl (by decide) rfl (fun ls hl => ?_)
    refine lv_aload_n hx hb dX5_auto_13 rfl (lv_at hl 1 rfl) ?_
    refine lv_iload_n hx hb dX5_auto_14 rfl (lv_at hl 2 rfl) ?_
    obtain ⟨h2, hM⟩ := gdZ_some sm_ne hM
    obtain ⟨c1, hc1, hM⟩ := pfA_some hM
    refine gput (w := wM ad cA) (c := c) (c1 := c1) (v := .int a1) hx hb hts i5 tyX5 tyX5_ok nmX5 hown hK1 hP (hD c) hS 0 rfl rfl 17 (by decide) f54 rfl rfl h2.1 h2.2 (Nat.le_of_ble_eq_true rfl) (by rw [hc1]; rfl) dX5_auto_15 (fun H locs hP hS => ?_)
    refine lv_iload_n hx hb dX5_auto_18 rfl (lv_at hl 0 rfl) ?_
    exact W.iret hx hb hr (fun t ht hW => ⟨⟨_, _, rfl, pr2 hM, hPt ht hP⟩, hS.F ht⟩) hS.2.2 dX5_auto_19
  · have hM := it_n e5 hM
    refine lv_iconst (v := 1) hx hb dX5_auto_7 (by decide) ?_
    refine lv_goto (tgt := 12) hx hb dX5_auto_8 (by decide) ?_
    refine lv_istore_n (lv' := [(2, .int 1), (0, .ref (ad 0)), (1, .int a1)]) hx hb dX5_auto_12 rfl hl (by decide) rfl (fun ls hl => ?_)
    refine lv_aload_n hx hb dX5_auto_13 rfl (lv_at hl 1 rfl) ?_
    refine lv_iload_n hx hb dX5_auto_14 rfl (lv_at hl 2 rfl) ?_
    obtain ⟨h4, hM⟩ := gdZ_some sm_ne hM
    obtain ⟨c3, hc3, hM⟩ := pfA_some hM
    refine gput (w := wM ad cA) (c := c) (c1 := c3) (v := .int a1) hx hb hts i5 tyX5 tyX5_ok nmX5 hown hK1 hP (hD c) hS 0 rfl rfl 17 (by decide) f54 rfl rfl h4.1 h4.2 (Nat.le_of_ble_eq_true rfl) (by rw [hc3]; rfl) dX5_auto_15 (fun H locs hP hS => ?_)
    refine lv_iload_n hx hb dX5_auto_18 rfl (lv_at hl 0 rfl) ?_
    exact W.iret hx hb hr (fun t ht hW => ⟨⟨_, _, rfl, pr2 hM, hPt ht hP⟩, hS.F ht⟩) hS.2.2 dX5_auto_19
set_option maxHeartbeats 4000000 in
set_option maxRecDepth 100000 in
theorem kX5_classOf (l : Launch) (dC : Nat → ClassId) (dI : Nat → Nat → Nat) (ad : Nat → Nat) (cA : Nat → ClassId) (hap : apart 15 ad) (sz : Nat) (c : HS) (a0 : Int32) (r0 : Int32) (hM : pX5_classOf a0 = some r0) : Met l yX5_classOf wsX5_classOf ({ frames := 0, cells := 0, slots := 0, locals := 0 }) (gP (dC, dI) (wM ad cA) (kM (dC, dI) cA) c sz [.int a0]) (gQi (dC, dI) (wM ad cA) (fA 15 ad sz) r0 c) 0 0 (fA 15 ad sz) := by
  refine Met.ofW (cc := cX5_classOf) (maxL := 3) (ret := (some .int)) (by decide) rfl ?_
  intro p e s m args below meth cd s₁ B hml hv
  obtain ⟨rfl, rfl, hP, hK⟩ := hv
  have hx := B.exec
  have hb := B.bytes
  have hr := B.returns
  have hts := atoms_spec (ws := wsX5_classOf) B.pre
  have hown : s.vm.findClass RX5 = some m.cls := findClass_of_methodNamed B.named
  have hlocks := B.notSynchronized
  have hK1 : va_K (dC, dI) vwCl (tM cA) s := hK
  have hD : ∀ c, va_D (fA 15 ad s.heap.size) (wM ad cA c) := fun c => dM_ok hap cA c _
  have hS : va_S (fA 15 ad s.heap.size) s.heap s.heap [] := va_S.rf
  have L4 : ∀ (n : Nat) (v0 : Int32) (v1 : Int32) (v2 : Int32) (H : Heap) (locs : List Loc) (ls : Array Slot), pX5_classOf_4 n v0 v1 v2 = some r0 → va_P (dC, dI) vwCl (wM ad cA c) H → va_S (fA 15 ad s.heap.size) s.heap H locs → lv_has ls 3 [(0, .int v0), (1, .int v1), (2, .int v2)] → W p l e (headSpec wsX5_classOf ({ frames := 0, cells := 0, slots := 0, locals := 0 })).room s m ([.int a0]).toArray below meth cd H locs 0 0 (MQ below (gQi (dC, dI) (wM ad cA) (fA 15 ad s.heap.size) r0 c) ([.int a0]).toArray s 0 0 (fA 15 ad s.heap.size)) (F0 m 4 ls []) := by
    intro n
    induction n with
    | zero =>
      intro v0 v1 v2 H locs ls hM
      exact absurd (Eq.symm (hM : none = some r0)) sm_ne
    | succ n4 ih4 =>
      intro v0 v1 v2 H locs ls hM hP hS hl
      unfold pX5_classOf_4 at hM
      refine lv_iload_n hx hb dX5_classOf_4 rfl (lv_at hl 1 rfl) ?_
      refine lv_iconst (v := 5) hx hb dX5_classOf_5 (by decide) ?_
      refine lv_icmp_ge (tgt := 24) hx hb dX5_classOf_6 (by decide) (fun e2 => ?_) (fun e2 => ?_)
      · have hM := it_p e2 hM
        refine lv_iload_n hx hb dX5_classOf_24 rfl (lv_at hl 1 rfl) ?_
        exact W.iret hx hb hr (fun t ht hW => ⟨⟨_, _, rfl, ⟨pr1 hM, rfl⟩, hPt ht hP⟩, hS.F ht⟩) hS.2.2 dX5_classOf_25
      · have hM := it_n e2 hM
        refine lv_iload_n hx hb dX5_classOf_9 rfl (lv_at hl 0 rfl) ?_
        refine lv_iload_n hx hb dX5_classOf_10 rfl (lv_at hl 2 rfl) ?_
        refine lv_icmp_le (tgt := 24) hx hb dX5_classOf_11 (by decide) (fun e1 => ?_) (fun e1 => ?_)
        · have hM := it_p e1 hM
          refine lv_iload_n hx hb dX5_classOf_24 rfl (lv_at hl 1 rfl) ?_
          exact W.iret hx hb hr (fun t ht hW => ⟨⟨_, _, rfl, ⟨pr1 hM, rfl⟩, hPt ht hP⟩, hS.F ht⟩) hS.2.2 dX5_classOf_25
        · have hM := it_n e1 hM
          refine lv_iinc (v := v1 + 1) (lv' := [(1, .int (v1 + 1)), (0, .int v0), (2, .int v2)]) hx hb dX5_classOf_14 hl (k := 1) rfl rfl (by decide) rfl (fun ls hl => ?_)
          refine lv_iload_n hx hb dX5_classOf_17 rfl (lv_at hl 2 rfl) ?_
          refine lv_iconst (v := 2) hx hb dX5_classOf_18 (by decide) ?_
          refine lv_imul hx hb dX5_classOf_19 ?_
          refine lv_istore_n (lv' := [(2, .int (v2 * 2)), (1, .int (v1 + 1)), (0, .int v0)]) hx hb dX5_classOf_20 rfl hl (by decide) rfl (fun ls hl => ?_)
          refine lv_goto (tgt := 4) hx hb dX5_classOf_21 (by decide) ?_
          exact ih4 _ _ _ _ _ _ hM hP hS (lv_sub hl [2, 1, 0] rfl)
  have hl := lv_entry [.int a0] (n := 3) (Nat.le_of_ble_eq_true rfl)
  rw [lg_entry_eq]
  generalize (lg_sl [.int a0] ++ List.replicate (3 - (lg_sl [.int a0]).length) Slot.unset).toArray = ls at hl ⊢
  have hl : lv_has ls 3 [(0, .int a0)] := hl
  have hP : va_P (dC, dI) vwCl (wM ad cA c) s.heap := hP
  unfold pX5_classOf at hM
  refine lv_iconst (v := 0) hx hb dX5_classOf_0 (by decide) ?_
  refine lv_istore_n (lv' := [(1, .int 0), (0, .int a0)]) hx hb dX5_classOf_1 rfl hl (by decide) rfl (fun ls hl => ?_)
  refine lv_iconst (v := 2) hx hb dX5_classOf_2 (by decide) ?_
  refine lv_istore_n (lv' := [(2, .int 2), (1, .int 0), (0, .int a0)]) hx hb dX5_classOf_3 rfl hl (by decide) rfl (fun ls hl => ?_)
  exact L4 _ _ _ _ _ _ _ hM hP hS (lv_sub hl [2, 1, 0] rfl)
set_option maxHeartbeats 4000000 in
set_option maxRecDepth 100000 in
theorem kX5_isOpen (l : Launch) (dC : Nat → ClassId) (dI : Nat → Nat → Nat) (ad : Nat → Nat) (cA : Nat → ClassId) (hap : apart 15 ad) (sz : Nat) (c : HS) (a1 : Int32) (a2 : Int32) (r0 : Int32) (hM : pX5_isOpen c a1 a2 = some r0) : Met l yX5_isOpen wsX5_isOpen ({ frames := 0, cells := 0, slots := 0, locals := 0 }) (gP (dC, dI) (wM ad cA) (kM (dC, dI) cA) c sz [.ref (ad 0), .int a1, .int a2]) (gQi (dC, dI) (wM ad cA) (fA 15 ad sz) r0 c) 0 0 (fA 15 ad sz) := by
  refine Met.ofW (cc := cX5_isOpen) (maxL := 3) (ret := (some .boolean)) (by decide) rfl ?_
  intro p e s m args below meth cd s₁ B hml hv
  obtain ⟨rfl, rfl, hP, hK⟩ := hv
  have hx := B.exec
  have hb := B.bytes
  have hr := B.returns
  have hts := atoms_spec (ws := wsX5_isOpen) B.pre
  have hown : s.vm.findClass RX5 = some m.cls := findClass_of_methodNamed B.named
  have hlocks := B.notSynchronized
  have hK1 : va_K (dC, dI) vwCl (tM cA) s := hK
  have hD : ∀ c, va_D (fA 15 ad s.heap.size) (wM ad cA c) := fun c => dM_ok hap cA c _
  have hS : va_S (fA 15 ad s.heap.size) s.heap s.heap [] := va_S.rf
  have i5 : ∀ w ∈ u_ws RX5 TX5 27, w ∈ wsX5_isOpen := by decide +kernel
  have f13 := hts (.fieldLink RX5 13 "StickyHeapModel" "sorts" "[I") (by decide +kernel)
  have f24 := hts (.fieldLink RX5 24 "StickyHeapModel" "barred" "[Z") (by decide +kernel)
  have hl := lv_entry [.ref (ad 0), .int a1, .int a2] (n := 3) (Nat.le_of_ble_eq_true rfl)
  rw [lg_entry_eq]
  generalize (lg_sl [.ref (ad 0), .int a1, .int a2] ++ List.replicate (3 - (lg_sl [.ref (ad 0), .int a1, .int a2]).length) Slot.unset).toArray = ls at hl ⊢
  have hl : lv_has ls 3 [(0, .ref (ad 0)), (1, .int a1), (2, .int a2)] := hl
  have hP : va_P (dC, dI) vwCl (wM ad cA c) s.heap := hP
  unfold pX5_isOpen at hM
  refine lv_aload_n hx hb dX5_isOpen_0 rfl (lv_at hl 0 rfl) ?_
  refine gget (v := .ref (ad 1)) hx hb hts i5 hown hK1 hP 0 rfl rfl 1 (by decide) f13 rfl rfl dX5_isOpen_1 ?_
  refine lv_iload_n hx hb dX5_isOpen_4 rfl (lv_at hl 1 rfl) ?_
  obtain ⟨h2, x1, hx1, hM⟩ := ldA_some sm_ne hM
  refine gald hx hb hK1 hP 1 0 rfl rfl h2 hx1 dX5_isOpen_5 ?_
  refine lv_if_ne (tgt := 26) hx hb dX5_isOpen_6 (by decide) (fun e7 => ?_) (fun e7 => ?_)
  · have hM := it_n e7 hM
    refine lv_iconst (v := 0) hx hb dX5_isOpen_26 (by decide) ?_
    exact W.zret hx hb hr rfl (fun t ht hW => ⟨⟨_, _, rfl, ⟨pr1 hM, rfl⟩, hPt ht hP⟩, hS.F ht⟩) hS.2.2 dX5_isOpen_27
  · have hM := it_p e7 hM
    refine lv_iload_n hx hb dX5_isOpen_9 rfl (lv_at hl 2 rfl) ?_
    refine lv_if_eq (tgt := 22) hx hb dX5_isOpen_10 (by decide) (fun e6 => ?_) (fun e6 => ?_)
    · have hM := it_p e6 hM
      refine lv_iconst (v := 1) hx hb dX5_isOpen_22 (by decide) ?_
      refine lv_goto (tgt := 27) hx hb dX5_isOpen_23 (by decide) ?_
      exact W.zret hx hb hr rfl (fun t ht hW => ⟨⟨_, _, rfl, ⟨pr1 hM, rfl⟩, hPt ht hP⟩, hS.F ht⟩) hS.2.2 dX5_isOpen_27
    · have hM := it_n e6 hM
      refine lv_aload_n hx hb dX5_isOpen_13 rfl (lv_at hl 0 rfl) ?_
      refine gget (v := .ref (ad 4)) hx hb hts i5 hown hK1 hP 0 rfl rfl 4 (by decide) f24 rfl rfl dX5_isOpen_14 ?_
      refine lv_iload_n hx hb dX5_isOpen_17 rfl (lv_at hl 1 rfl) ?_
      obtain ⟨h4, x3, hx3, hM⟩ := ldA_some sm_ne hM
      refine gzld hx hb hK1 hP 4 3 rfl rfl h4 hx3 dX5_isOpen_18 ?_
      refine lv_if_ne (tgt := 26) hx hb dX5_isOpen_19 (by decide) (fun e5 => ?_) (fun e5 => ?_)
      · have hM := it_n e5 hM
        refine lv_iconst (v := 0) hx hb dX5_isOpen_26 (by decide) ?_
        exact W.zret hx hb hr rfl (fun t ht hW => ⟨⟨_, _, rfl, ⟨pr1 hM, rfl⟩, hPt ht hP⟩, hS.F ht⟩) hS.2.2 dX5_isOpen_27
      · have hM := it_p e5 hM
        refine lv_iconst (v := 1) hx hb dX5_isOpen_22 (by decide) ?_
        refine lv_goto (tgt := 27) hx hb dX5_isOpen_23 (by decide) ?_
        exact W.zret hx hb hr rfl (fun t ht hW => ⟨⟨_, _, rfl, ⟨pr1 hM, rfl⟩, hPt ht hP⟩, hS.F ht⟩) hS.2.2 dX5_isOpen_27
set_option maxHeartbeats 4000000 in
set_option maxRecDepth 100000 in
theorem kX5_large (l : Launch) (dC : Nat → ClassId) (dI : Nat → Nat → Nat) (ad : Nat → Nat) (cA : Nat → ClassId) (hap : apart 15 ad) (sz : Nat) (c : HS) (a1 : Int32) (a2 : Int32) (r0 : Int32) (c9 : HS) (hM : pX5_large c a1 a2 = some (r0, c9)) : Met l yX5_large wsX5_large ({ frames := 1, cells := 0, slots := 0, locals := 22 }) (gP (dC, dI) (wM ad cA) (kM (dC, dI) cA) c sz [.ref (ad 0), .int a1, .int a2]) (gQi (dC, dI) (wM ad cA) (fA 15 ad sz) r0 c9) 0 0 (fA 15 ad sz) := by
  refine Met.ofW (cc := cX5_large) (maxL := 7) (ret := (some .int)) (by decide) rfl ?_
  intro p e s m args below meth cd s₁ B hml hv
  obtain ⟨rfl, rfl, hP, hK⟩ := hv
  have hx := B.exec
  have hb := B.bytes
  have hr := B.returns
  have hts := atoms_spec (ws := wsX5_large) B.pre
  have hown : s.vm.findClass RX5 = some m.cls := findClass_of_methodNamed B.named
  have hlocks := B.notSynchronized
  have hK1 : va_K (dC, dI) vwCl (tM cA) s := hK
  have hD : ∀ c, va_D (fA 15 ad s.heap.size) (wM ad cA c) := fun c => dM_ok hap cA c _
  have hS : va_S (fA 15 ad s.heap.size) s.heap s.heap [] := va_S.rf
  have i5 : ∀ w ∈ u_ws RX5 TX5 27, w ∈ wsX5_large := by decide +kernel
  have f7 := hts (.fieldLink RX5 7 "StickyHeapModel" "blocks" "I") (by decide +kernel)
  have f13 := hts (.fieldLink RX5 13 "StickyHeapModel" "sorts" "[I") (by decide +kernel)
  have f17 := hts (.fieldLink RX5 17 "StickyHeapModel" "classes" "[I") (by decide +kernel)
  have f24 := hts (.fieldLink RX5 24 "StickyHeapModel" "barred" "[Z") (by decide +kernel)
  have L13 : ∀ (n : Nat) (c : HS) (v2 : Int32) (v3 : Int32) (v4 : Int32) (H : Heap) (locs : List Loc) (ls : Array Slot), pX5_large_13 n c v2 v3 v4 = some (r0, c9) → va_P (dC, dI) vwCl (wM ad cA c) H → va_S (fA 15 ad s.heap.size) s.heap H locs → lv_has ls 7 [(0, .ref (ad 0)), (2, .int v2), (3, .int v3), (4, .int v4)] → W p l e (headSpec wsX5_large ({ frames := 1, cells := 0, slots := 0, locals := 22 })).room s m ([.ref (ad 0), .int a1, .int a2]).toArray below meth cd H locs 0 0 (MQ below (gQi (dC, dI) (wM ad cA) (fA 15 ad s.heap.size) r0 c9) ([.ref (ad 0), .int a1, .int a2]).toArray s 0 0 (fA 15 ad s.heap.size)) (F0 m 13 ls []) := by
    intro n
    induction n with
    | zero =>
      intro c v2 v3 v4 H locs ls hM
      exact absurd (Eq.symm (hM : none = some (r0, c9))) sm_ne
    | succ n13 ih13 =>
      have L31 : ∀ (n : Nat) (c : HS) (v2 : Int32) (v3 : Int32) (v4 : Int32) (v5 : Int32) (v6 : Int32) (H : Heap) (locs : List Loc) (ls : Array Slot), pX5_large_31 (pX5_large_13 n13) n c v2 v3 v4 v5 v6 = some (r0, c9) → va_P (dC, dI) vwCl (wM ad cA c) H → va_S (fA 15 ad s.heap.size) s.heap H locs → lv_has ls 7 [(0, .ref (ad 0)), (2, .int v2), (3, .int v3), (4, .int v4), (5, .int v5), (6, .int v6)] → W p l e (headSpec wsX5_large ({ frames := 1, cells := 0, slots := 0, locals := 22 })).room s m ([.ref (ad 0), .int a1, .int a2]).toArray below meth cd H locs 0 0 (MQ below (gQi (dC, dI) (wM ad cA) (fA 15 ad s.heap.size) r0 c9) ([.ref (ad 0), .int a1, .int a2]).toArray s 0 0 (fA 15 ad s.heap.size)) (F0 m 31 ls []) := by
        intro n
        induction n with
        | zero =>
          intro c v2 v3 v4 v5 v6 H locs ls hM
          exact absurd (Eq.symm (hM : none = some (r0, c9))) sm_ne
        | succ n31 ih31 =>
          have L77 : ∀ (n : Nat) (c : HS) (v3 : Int32) (v4 : Int32) (v6 : Int32) (H : Heap) (locs : List Loc) (ls : Array Slot), pX5_large_77 n c v3 v4 v6 = some (r0, c9) → va_P (dC, dI) vwCl (wM ad cA c) H → va_S (fA 15 ad s.heap.size) s.heap H locs → lv_has ls 7 [(0, .ref (ad 0)), (3, .int v3), (4, .int v4), (6, .int v6)] → W p l e (headSpec wsX5_large ({ frames := 1, cells := 0, slots := 0, locals := 22 })).room s m ([.ref (ad 0), .int a1, .int a2]).toArray below meth cd H locs 0 0 (MQ below (gQi (dC, dI) (wM ad cA) (fA 15 ad s.heap.size) r0 c9) ([.ref (ad 0), .int a1, .int a2]).toArray s 0 0 (fA 15 ad s.heap.size)) (F0 m 77 ls []) := by
            intro n
            induction n with
            | zero =>
              intro c v3 v4 v6 H locs ls hM
              exact absurd (Eq.symm (hM : none = some (r0, c9))) sm_ne
            | succ n77 ih77 =>
              have L104 : ∀ (c : HS) (v3 : Int32) (v4 : Int32) (v6 : Int32) (s1 : Int32) (s2 : Int32) (H : Heap) (locs : List Loc) (ls : Array Slot), pX5_large_104 (pX5_large_77 n77) c v3 v4 v6 s1 s2 = some (r0, c9) → va_P (dC, dI) vwCl (wM ad cA c) H → va_S (fA 15 ad s.heap.size) s.heap H locs → lv_has ls 7 [(0, .ref (ad 0)), (3, .int v3), (4, .int v4), (6, .int v6)] → W p l e (headSpec wsX5_large ({ frames := 1, cells := 0, slots := 0, locals := 22 })).room s m ([.ref (ad 0), .int a1, .int a2]).toArray below meth cd H locs 0 0 (MQ below (gQi (dC, dI) (wM ad cA) (fA 15 ad s.heap.size) r0 c9) ([.ref (ad 0), .int a1, .int a2]).toArray s 0 0 (fA 15 ad s.heap.size)) (F0 m 104 ls [.int s2, .int s1, .ref (ad 1)]) := by
                intro c v3 v4 v6 s1 s2 H locs ls hM hP hS hl
                unfold pX5_large_104 at hM
                obtain ⟨h2, c1, hc1, hM⟩ := stA_some sm_ne hM
                refine gast (w := wM ad cA) (c := c) (c1 := c1) hx hb hK1 hP (hD c) hS 1 0 rfl rfl h2 (by rw [hc1]; rfl) dX5_large_104 (fun H locs hP hS => ?_)
                refine lv_aload_n hx hb dX5_large_105 rfl (lv_at hl 0 rfl) ?_
                refine gget (v := .ref (ad 2)) hx hb hts i5 hown hK1 hP 0 rfl rfl 2 (by decide) f17 rfl rfl dX5_large_106 ?_
                refine lv_iload hx hb dX5_large_109 (lv_at hl 3 rfl) ?_
                refine lv_iconst (v := 5) hx hb dX5_large_111 (by decide) ?_
                obtain ⟨h4, c3, hc3, hM⟩ := stA_some sm_ne hM
                refine gast (w := wM ad cA) (c := c1) (c1 := c3) hx hb hK1 hP (hD c1) hS 2 1 rfl rfl h4 (by rw [hc3]; rfl) dX5_large_112 (fun H locs hP hS => ?_)
                refine lv_aload_n hx hb dX5_large_113 rfl (lv_at hl 0 rfl) ?_
                refine gget (v := .ref (ad 4)) hx hb hts i5 hown hK1 hP 0 rfl rfl 4 (by decide) f24 rfl rfl dX5_large_114 ?_
                refine lv_iload hx hb dX5_large_117 (lv_at hl 3 rfl) ?_
                refine lv_iconst (v := 0) hx hb dX5_large_119 (by decide) ?_
                obtain ⟨h6, h6z, c5, hc5, hM⟩ := stZ_some sm_ne hM
                refine gzst (w := wM ad cA) (c := c3) (c1 := c5) hx hb hK1 hP (hD c3) hS 4 3 rfl rfl h6 h6z (by rw [hc5]; rfl) dX5_large_120 (fun H locs hP hS => ?_)
                refine lv_iinc (v := v6 + 1) (lv' := [(6, .int (v6 + 1)), (0, .ref (ad 0)), (3, .int v3), (4, .int v4)]) hx hb dX5_large_121 hl (k := 3) rfl rfl (by decide) rfl (fun ls hl => ?_)
                refine lv_goto (tgt := 77) hx hb dX5_large_124 (by decide) ?_
                exact ih77 _ _ _ _ _ _ _ hM hP hS (lv_sub hl [1, 2, 3, 0] rfl)
              intro c v3 v4 v6 H locs ls hM hP hS hl
              unfold pX5_large_77 at hM
              refine lv_iload hx hb dX5_large_77 (lv_at hl 3 rfl) ?_
              refine lv_iload hx hb dX5_large_79 (lv_at hl 2 rfl) ?_
              refine lv_iload_n hx hb dX5_large_81 rfl (lv_at hl 1 rfl) ?_
              refine lv_iadd hx hb dX5_large_82 ?_
              refine lv_icmp_ge (tgt := 127) hx hb dX5_large_83 (by decide) (fun e8 => ?_) (fun e8 => ?_)
              · have hM := it_p e8 hM
                refine lv_bipush (v := 64) hx hb dX5_large_127 (by decide) ?_
                refine lv_iload hx hb dX5_large_129 (lv_at hl 2 rfl) ?_
                refine lv_imul hx hb dX5_large_131 ?_
                exact W.iret hx hb hr (fun t ht hW => ⟨⟨_, _, rfl, pr2 hM, hPt ht hP⟩, hS.F ht⟩) hS.2.2 dX5_large_132
              · have hM := it_n e8 hM
                refine lv_aload_n hx hb dX5_large_86 rfl (lv_at hl 0 rfl) ?_
                refine gget (v := .ref (ad 1)) hx hb hts i5 hown hK1 hP 0 rfl rfl 1 (by decide) f13 rfl rfl dX5_large_87 ?_
                refine lv_iload hx hb dX5_large_90 (lv_at hl 3 rfl) ?_
                refine lv_iload hx hb dX5_large_92 (lv_at hl 3 rfl) ?_
                refine lv_iload hx hb dX5_large_94 (lv_at hl 2 rfl) ?_
                refine lv_icmp_ne (tgt := 103) hx hb dX5_large_96 (by decide) (fun e7 => ?_) (fun e7 => ?_)
                · have hM := it_n e7 hM
                  refine lv_iconst (v := 3) hx hb dX5_large_103 (by decide) ?_
                  exact L104 _ _ _ _ _ _ _ _ _ hM hP hS (lv_sub hl [0, 1, 2, 3] rfl)
                · have hM := it_p e7 hM
                  refine lv_iconst (v := 2) hx hb dX5_large_99 (by decide) ?_
                  refine lv_goto (tgt := 104) hx hb dX5_large_100 (by decide) ?_
                  exact L104 _ _ _ _ _ _ _ _ _ hM hP hS (lv_sub hl [0, 1, 2, 3] rfl)
          intro c v2 v3 v4 v5 v6 H locs ls hM hP hS hl
          unfold pX5_large_31 at hM
          refine lv_iload hx hb dX5_large_31 (lv_at hl 5 rfl) ?_
          refine lv_iload hx hb dX5_large_33 (lv_at hl 3 rfl) ?_
          refine lv_iload_n hx hb dX5_large_35 rfl (lv_at hl 2 rfl) ?_
          refine lv_iadd hx hb dX5_large_36 ?_
          refine lv_icmp_ge (tgt := 68) hx hb dX5_large_37 (by decide) (fun e14 => ?_) (fun e14 => ?_)
          · have hM := it_p e14 hM
            refine lv_iload hx hb dX5_large_68 (lv_at hl 4 rfl) ?_
            refine lv_if_eq (tgt := 133) hx hb dX5_large_70 (by decide) (fun e9 => ?_) (fun e9 => ?_)
            · have hM := it_p e9 hM
              refine lv_iinc (v := v4 + 1) (lv' := [(4, .int (v4 + 1)), (0, .ref (ad 0)), (2, .int v2), (3, .int v3), (5, .int v5), (6, .int v6)]) hx hb dX5_large_133 hl (k := 3) rfl rfl (by decide) rfl (fun ls hl => ?_)
              refine lv_goto (tgt := 13) hx hb dX5_large_136 (by decide) ?_
              exact ih13 _ _ _ _ _ _ _ hM hP hS (lv_sub hl [1, 2, 3, 0] rfl)
            · have hM := it_n e9 hM
              refine lv_iload hx hb dX5_large_73 (lv_at hl 3 rfl) ?_
              refine lv_istore (lv' := [(6, .int v4), (0, .ref (ad 0)), (2, .int v2), (3, .int v3), (4, .int v4), (5, .int v5)]) hx hb dX5_large_75 hl (by decide) rfl (fun ls hl => ?_)
              exact L77 _ _ _ _ _ _ _ _ hM hP hS (lv_sub hl [1, 3, 4, 0] rfl)
          · have hM := it_n e14 hM
            refine lv_iload hx hb dX5_large_40 (lv_at hl 4 rfl) ?_
            refine lv_if_eq (tgt := 59) hx hb dX5_large_42 (by decide) (fun e13 => ?_) (fun e13 => ?_)
            · have hM := it_p e13 hM
              refine lv_iconst (v := 0) hx hb dX5_large_59 (by decide) ?_
              refine lv_istore (lv' := [(5, .int 0), (0, .ref (ad 0)), (2, .int v2), (3, .int v3), (4, .int v4), (6, .int v6)]) hx hb dX5_large_60 hl (by decide) rfl (fun ls hl => ?_)
              refine lv_iinc (v := v6 + 1) (lv' := [(6, .int (v6 + 1)), (5, .int 0), (0, .ref (ad 0)), (2, .int v2), (3, .int v3), (4, .int v4)]) hx hb dX5_large_62 hl (k := 5) rfl rfl (by decide) rfl (fun ls hl => ?_)
              refine lv_goto (tgt := 31) hx hb dX5_large_65 (by decide) ?_
              exact ih31 _ _ _ _ _ _ _ _ _ hM hP hS (lv_sub hl [2, 3, 4, 5, 1, 0] rfl)
            · have hM := it_n e13 hM
              refine lv_aload_n hx hb dX5_large_45 rfl (lv_at hl 0 rfl) ?_
              refine lv_iload hx hb dX5_large_46 (lv_at hl 5 rfl) ?_
              refine lv_iload_n hx hb dX5_large_48 rfl (lv_at hl 1 rfl) ?_
              obtain ⟨r11, h10, hM⟩ := bd1_some sm_ne hM
              refine gCi (gV (As := [.int v6, .int v2]) (rest := []) ⟨hx, hb, hml, hown, hts⟩ (kX5_isOpen l dC dI ad cA hap _ c v6 v2 _ h10) (cwV 2 hts gX5_large_X5_isOpen rfl rfl rfl (by decide +kernel) ⟨Nat.le_of_ble_eq_true rfl, Nat.le_of_ble_eq_true rfl⟩) (kM_st _ _) hK hP (va_recv hK1 hP (ci := 5) (q0 := 0) rfl rfl) rfl hl.1 rfl (Nat.le_of_ble_eq_true rfl) dX5_large_49 ⟨Nat.zero_le _, Nat.zero_le _⟩) hS (fun H locs hP hS => ?_)
              refine lv_if_eq (tgt := 59) hx hb dX5_large_52 (by decide) (fun e12 => ?_) (fun e12 => ?_)
              · have hM := it_p e12 hM
                refine lv_iconst (v := 0) hx hb dX5_large_59 (by decide) ?_
                refine lv_istore (lv' := [(5, .int 0), (0, .ref (ad 0)), (2, .int v2), (3, .int v3), (4, .int v4), (6, .int v6)]) hx hb dX5_large_60 hl (by decide) rfl (fun ls hl => ?_)
                refine lv_iinc (v := v6 + 1) (lv' := [(6, .int (v6 + 1)), (5, .int 0), (0, .ref (ad 0)), (2, .int v2), (3, .int v3), (4, .int v4)]) hx hb dX5_large_62 hl (k := 5) rfl rfl (by decide) rfl (fun ls hl => ?_)
                refine lv_goto (tgt := 31) hx hb dX5_large_65 (by decide) ?_
                exact ih31 _ _ _ _ _ _ _ _ _ hM hP hS (lv_sub hl [2, 3, 4, 5, 1, 0] rfl)
              · have hM := it_n e12 hM
                refine lv_iconst (v := 1) hx hb dX5_large_55 (by decide) ?_
                refine lv_goto (tgt := 60) hx hb dX5_large_56 (by decide) ?_
                refine lv_istore (lv' := [(5, .int 1), (0, .ref (ad 0)), (2, .int v2), (3, .int v3), (4, .int v4), (6, .int v6)]) hx hb dX5_large_60 hl (by decide) rfl (fun ls hl => ?_)
                refine lv_iinc (v := v6 + 1) (lv' := [(6, .int (v6 + 1)), (5, .int 1), (0, .ref (ad 0)), (2, .int v2), (3, .int v3), (4, .int v4)]) hx hb dX5_large_62 hl (k := 5) rfl rfl (by decide) rfl (fun ls hl => ?_)
                refine lv_goto (tgt := 31) hx hb dX5_large_65 (by decide) ?_
                exact ih31 _ _ _ _ _ _ _ _ _ hM hP hS (lv_sub hl [2, 3, 4, 5, 1, 0] rfl)
      intro c v2 v3 v4 H locs ls hM hP hS hl
      unfold pX5_large_13 at hM
      refine lv_iload hx hb dX5_large_13 (lv_at hl 3 rfl) ?_
      refine lv_iload_n hx hb dX5_large_15 rfl (lv_at hl 2 rfl) ?_
      refine lv_iadd hx hb dX5_large_16 ?_
      refine lv_aload_n hx hb dX5_large_17 rfl (lv_at hl 0 rfl) ?_
      refine gget (v := .int (c.1 0 0)) hx hb hts i5 hown hK1 hP 0 rfl rfl 0 (by decide) f7 rfl rfl dX5_large_18 ?_
      refine lv_icmp_gt (tgt := 139) hx hb dX5_large_21 (by decide) (fun e15 => ?_) (fun e15 => ?_)
      · have hM := it_p e15 hM
        refine lv_iconst (v := (-1)) hx hb dX5_large_139 (by decide) ?_
        exact W.iret hx hb hr (fun t ht hW => ⟨⟨_, _, rfl, pr2 hM, hPt ht hP⟩, hS.F ht⟩) hS.2.2 dX5_large_140
      · have hM := it_n e15 hM
        refine lv_iconst (v := 1) hx hb dX5_large_24 (by decide) ?_
        refine lv_istore (lv' := [(5, .int 1), (0, .ref (ad 0)), (2, .int v2), (3, .int v3), (4, .int v4)]) hx hb dX5_large_25 hl (by decide) rfl (fun ls hl => ?_)
        refine lv_iload hx hb dX5_large_27 (lv_at hl 4 rfl) ?_
        refine lv_istore (lv' := [(6, .int v4), (5, .int 1), (0, .ref (ad 0)), (2, .int v2), (3, .int v3), (4, .int v4)]) hx hb dX5_large_29 hl (by decide) rfl (fun ls hl => ?_)
        exact L31 _ _ _ _ _ _ _ _ _ _ hM hP hS (lv_sub hl [2, 3, 4, 5, 1, 0] rfl)
  have hl := lv_entry [.ref (ad 0), .int a1, .int a2] (n := 7) (Nat.le_of_ble_eq_true rfl)
  rw [lg_entry_eq]
  generalize (lg_sl [.ref (ad 0), .int a1, .int a2] ++ List.replicate (7 - (lg_sl [.ref (ad 0), .int a1, .int a2]).length) Slot.unset).toArray = ls at hl ⊢
  have hl : lv_has ls 7 [(0, .ref (ad 0)), (1, .int a1), (2, .int a2)] := hl
  have hP : va_P (dC, dI) vwCl (wM ad cA c) s.heap := hP
  unfold pX5_large at hM
  refine lv_iload_n hx hb dX5_large_0 rfl (lv_at hl 1 rfl) ?_
  refine lv_bipush (v := 64) hx hb dX5_large_1 (by decide) ?_
  refine lv_iadd hx hb dX5_large_3 ?_
  refine lv_iconst (v := 1) hx hb dX5_large_4 (by decide) ?_
  refine lv_isub hx hb dX5_large_5 ?_
  refine lv_bipush (v := 64) hx hb dX5_large_6 (by decide) ?_
  refine lv_idiv hx hb dX5_large_8 (by decide) ?_
  refine lv_istore_n (lv' := [(3, .int (((a1 + 64) - 1) / 64)), (0, .ref (ad 0)), (1, .int a1), (2, .int a2)]) hx hb dX5_large_9 rfl hl (by decide) rfl (fun ls hl => ?_)
  refine lv_iconst (v := 0) hx hb dX5_large_10 (by decide) ?_
  refine lv_istore (lv' := [(4, .int 0), (3, .int (((a1 + 64) - 1) / 64)), (0, .ref (ad 0)), (1, .int a1), (2, .int a2)]) hx hb dX5_large_11 hl (by decide) rfl (fun ls hl => ?_)
  exact L13 _ _ _ _ _ _ _ _ hM hP hS (lv_sub hl [2, 4, 1, 0] rfl)
set_option maxHeartbeats 4000000 in
set_option maxRecDepth 100000 in
theorem kX5_cell (l : Launch) (dC : Nat → ClassId) (dI : Nat → Nat → Nat) (ad : Nat → Nat) (cA : Nat → ClassId) (hap : apart 15 ad) (sz : Nat) (c : HS) (a0 : Int32) (r0 : Int32) (hM : pX5_cell a0 = r0) : Met l yX5_cell wsX5_cell ({ frames := 0, cells := 0, slots := 0, locals := 0 }) (gP (dC, dI) (wM ad cA) (kM (dC, dI) cA) c sz [.int a0]) (gQi (dC, dI) (wM ad cA) (fA 15 ad sz) r0 c) 0 0 (fA 15 ad sz) := by
  refine Met.ofW (cc := cX5_cell) (maxL := 1) (ret := (some .int)) (by decide) rfl ?_
  intro p e s m args below meth cd s₁ B hml hv
  obtain ⟨rfl, rfl, hP, hK⟩ := hv
  have hx := B.exec
  have hb := B.bytes
  have hr := B.returns
  have hts := atoms_spec (ws := wsX5_cell) B.pre
  have hown : s.vm.findClass RX5 = some m.cls := findClass_of_methodNamed B.named
  have hlocks := B.notSynchronized
  have hK1 : va_K (dC, dI) vwCl (tM cA) s := hK
  have hD : ∀ c, va_D (fA 15 ad s.heap.size) (wM ad cA c) := fun c => dM_ok hap cA c _
  have hS : va_S (fA 15 ad s.heap.size) s.heap s.heap [] := va_S.rf
  have hl := lv_entry [.int a0] (n := 1) (Nat.le_of_ble_eq_true rfl)
  rw [lg_entry_eq]
  generalize (lg_sl [.int a0] ++ List.replicate (1 - (lg_sl [.int a0]).length) Slot.unset).toArray = ls at hl ⊢
  have hl : lv_has ls 1 [(0, .int a0)] := hl
  have hP : va_P (dC, dI) vwCl (wM ad cA c) s.heap := hP
  unfold pX5_cell at hM
  refine lv_iconst (v := 2) hx hb dX5_cell_0 (by decide) ?_
  refine lv_iload_n hx hb dX5_cell_1 rfl (lv_at hl 0 rfl) ?_
  refine lv_ishl hx hb dX5_cell_2 ?_
  exact W.iret hx hb hr (fun t ht hW => ⟨⟨_, _, rfl, ⟨hM, rfl⟩, hPt ht hP⟩, hS.F ht⟩) hS.2.2 dX5_cell_3
set_option maxHeartbeats 4000000 in
set_option maxRecDepth 100000 in
theorem kX5_small (l : Launch) (dC : Nat → ClassId) (dI : Nat → Nat → Nat) (ad : Nat → Nat) (cA : Nat → ClassId) (hap : apart 15 ad) (sz : Nat) (c : HS) (a1 : Int32) (a2 : Int32) (r0 : Int32) (c9 : HS) (hM : pX5_small c a1 a2 = some (r0, c9)) : Met l yX5_small wsX5_small ({ frames := 1, cells := 0, slots := 0, locals := 22 }) (gP (dC, dI) (wM ad cA) (kM (dC, dI) cA) c sz [.ref (ad 0), .int a1, .int a2]) (gQi (dC, dI) (wM ad cA) (fA 15 ad sz) r0 c9) 0 0 (fA 15 ad sz) := by
  refine Met.ofW (cc := cX5_small) (maxL := 5) (ret := (some .int)) (by decide) rfl ?_
  intro p e s m args below meth cd s₁ B hml hv
  obtain ⟨rfl, rfl, hP, hK⟩ := hv
  have hx := B.exec
  have hb := B.bytes
  have hr := B.returns
  have hts := atoms_spec (ws := wsX5_small) B.pre
  have hown : s.vm.findClass RX5 = some m.cls := findClass_of_methodNamed B.named
  have hlocks := B.notSynchronized
  have hK1 : va_K (dC, dI) vwCl (tM cA) s := hK
  have hD : ∀ c, va_D (fA 15 ad s.heap.size) (wM ad cA c) := fun c => dM_ok hap cA c _
  have hS : va_S (fA 15 ad s.heap.size) s.heap s.heap [] := va_S.rf
  have i5 : ∀ w ∈ u_ws RX5 TX5 27, w ∈ wsX5_small := by decide +kernel
  have f7 := hts (.fieldLink RX5 7 "StickyHeapModel" "blocks" "I") (by decide +kernel)
  have f13 := hts (.fieldLink RX5 13 "StickyHeapModel" "sorts" "[I") (by decide +kernel)
  have f17 := hts (.fieldLink RX5 17 "StickyHeapModel" "classes" "[I") (by decide +kernel)
  have f24 := hts (.fieldLink RX5 24 "StickyHeapModel" "barred" "[Z") (by decide +kernel)
  have f30 := hts (.fieldLink RX5 30 "StickyHeapModel" "begins" "[Z") (by decide +kernel)
  have L2 : ∀ (n : Nat) (c : HS) (v1 : Int32) (v2 : Int32) (v3 : Int32) (H : Heap) (locs : List Loc) (ls : Array Slot), pX5_small_2 n c v1 v2 v3 = some (r0, c9) → va_P (dC, dI) vwCl (wM ad cA c) H → va_S (fA 15 ad s.heap.size) s.heap H locs → lv_has ls 5 [(0, .ref (ad 0)), (1, .int v1), (2, .int v2), (3, .int v3)] → W p l e (headSpec wsX5_small ({ frames := 1, cells := 0, slots := 0, locals := 22 })).room s m ([.ref (ad 0), .int a1, .int a2]).toArray below meth cd H locs 0 0 (MQ below (gQi (dC, dI) (wM ad cA) (fA 15 ad s.heap.size) r0 c9) ([.ref (ad 0), .int a1, .int a2]).toArray s 0 0 (fA 15 ad s.heap.size)) (F0 m 2 ls []) := by
    intro n
    induction n with
    | zero =>
      intro c v1 v2 v3 H locs ls hM
      exact absurd (Eq.symm (hM : none = some (r0, c9))) sm_ne
    | succ n2 ih2 =>
      have L81 : ∀ (n : Nat) (c : HS) (v1 : Int32) (v2 : Int32) (v3 : Int32) (H : Heap) (locs : List Loc) (ls : Array Slot), pX5_small_81 n c v1 v2 v3 = some (r0, c9) → va_P (dC, dI) vwCl (wM ad cA c) H → va_S (fA 15 ad s.heap.size) s.heap H locs → lv_has ls 5 [(0, .ref (ad 0)), (1, .int v1), (2, .int v2), (3, .int v3)] → W p l e (headSpec wsX5_small ({ frames := 1, cells := 0, slots := 0, locals := 22 })).room s m ([.ref (ad 0), .int a1, .int a2]).toArray below meth cd H locs 0 0 (MQ below (gQi (dC, dI) (wM ad cA) (fA 15 ad s.heap.size) r0 c9) ([.ref (ad 0), .int a1, .int a2]).toArray s 0 0 (fA 15 ad s.heap.size)) (F0 m 81 ls []) := by
        intro n
        induction n with
        | zero =>
          intro c v1 v2 v3 H locs ls hM
          exact absurd (Eq.symm (hM : none = some (r0, c9))) sm_ne
        | succ n81 ih81 =>
          intro c v1 v2 v3 H locs ls hM hP hS hl
          unfold pX5_small_81 at hM
          refine lv_iload_n hx hb dX5_small_81 rfl (lv_at hl 3 rfl) ?_
          refine lv_aload_n hx hb dX5_small_82 rfl (lv_at hl 0 rfl) ?_
          refine gget (v := .int (c.1 0 0)) hx hb hts i5 hown hK1 hP 0 rfl rfl 0 (by decide) f7 rfl rfl dX5_small_83 ?_
          refine lv_icmp_ge (tgt := 130) hx hb dX5_small_86 (by decide) (fun e10 => ?_) (fun e10 => ?_)
          · have hM := it_p e10 hM
            refine lv_iconst (v := (-1)) hx hb dX5_small_130 (by decide) ?_
            exact W.iret hx hb hr (fun t ht hW => ⟨⟨_, _, rfl, pr2 hM, hPt ht hP⟩, hS.F ht⟩) hS.2.2 dX5_small_131
          · have hM := it_n e10 hM
            refine lv_aload_n hx hb dX5_small_89 rfl (lv_at hl 0 rfl) ?_
            refine lv_iload_n hx hb dX5_small_90 rfl (lv_at hl 3 rfl) ?_
            refine lv_iload_n hx hb dX5_small_91 rfl (lv_at hl 2 rfl) ?_
            obtain ⟨r2, h1, hM⟩ := bd1_some sm_ne hM
            refine gCi (gV (As := [.int v3, .int v2]) (rest := []) ⟨hx, hb, hml, hown, hts⟩ (kX5_isOpen l dC dI ad cA hap _ c v3 v2 _ h1) (cwV 2 hts gX5_small_X5_isOpen rfl rfl rfl (by decide +kernel) ⟨Nat.le_of_ble_eq_true rfl, Nat.le_of_ble_eq_true rfl⟩) (kM_st _ _) hK hP (va_recv hK1 hP (ci := 5) (q0 := 0) rfl rfl) rfl hl.1 rfl (Nat.le_of_ble_eq_true rfl) dX5_small_92 ⟨Nat.zero_le _, Nat.zero_le _⟩) hS (fun H locs hP hS => ?_)
            refine lv_if_eq (tgt := 124) hx hb dX5_small_95 (by decide) (fun e9 => ?_) (fun e9 => ?_)
            · have hM := it_p e9 hM
              refine lv_iinc (v := v3 + 1) (lv' := [(3, .int (v3 + 1)), (0, .ref (ad 0)), (1, .int v1), (2, .int v2)]) hx hb dX5_small_124 hl (k := 3) rfl rfl (by decide) rfl (fun ls hl => ?_)
              refine lv_goto (tgt := 81) hx hb dX5_small_127 (by decide) ?_
              exact ih81 _ _ _ _ _ _ _ hM hP hS (lv_sub hl [1, 2, 3, 0] rfl)
            · have hM := it_n e9 hM
              refine lv_aload_n hx hb dX5_small_98 rfl (lv_at hl 0 rfl) ?_
              refine gget (v := .ref (ad 1)) hx hb hts i5 hown hK1 hP 0 rfl rfl 1 (by decide) f13 rfl rfl dX5_small_99 ?_
              refine lv_iload_n hx hb dX5_small_102 rfl (lv_at hl 3 rfl) ?_
              refine lv_iconst (v := 1) hx hb dX5_small_103 (by decide) ?_
              obtain ⟨h4, c3, hc3, hM⟩ := stA_some sm_ne hM
              refine gast (w := wM ad cA) (c := c) (c1 := c3) hx hb hK1 hP (hD c) hS 1 0 rfl rfl h4 (by rw [hc3]; rfl) dX5_small_104 (fun H locs hP hS => ?_)
              refine lv_aload_n hx hb dX5_small_105 rfl (lv_at hl 0 rfl) ?_
              refine gget (v := .ref (ad 2)) hx hb hts i5 hown hK1 hP 0 rfl rfl 2 (by decide) f17 rfl rfl dX5_small_106 ?_
              refine lv_iload_n hx hb dX5_small_109 rfl (lv_at hl 3 rfl) ?_
              refine lv_iload_n hx hb dX5_small_110 rfl (lv_at hl 1 rfl) ?_
              obtain ⟨h6, c5, hc5, hM⟩ := stA_some sm_ne hM
              refine gast (w := wM ad cA) (c := c3) (c1 := c5) hx hb hK1 hP (hD c3) hS 2 1 rfl rfl h6 (by rw [hc5]; rfl) dX5_small_111 (fun H locs hP hS => ?_)
              refine lv_aload_n hx hb dX5_small_112 rfl (lv_at hl 0 rfl) ?_
              refine gget (v := .ref (ad 4)) hx hb hts i5 hown hK1 hP 0 rfl rfl 4 (by decide) f24 rfl rfl dX5_small_113 ?_
              refine lv_iload_n hx hb dX5_small_116 rfl (lv_at hl 3 rfl) ?_
              refine lv_iconst (v := 0) hx hb dX5_small_117 (by decide) ?_
              obtain ⟨h8, h8z, c7, hc7, hM⟩ := stZ_some sm_ne hM
              refine gzst (w := wM ad cA) (c := c5) (c1 := c7) hx hb hK1 hP (hD c5) hS 4 3 rfl rfl h8 h8z (by rw [hc7]; rfl) dX5_small_118 (fun H locs hP hS => ?_)
              refine lv_bipush (v := 64) hx hb dX5_small_119 (by decide) ?_
              refine lv_iload_n hx hb dX5_small_121 rfl (lv_at hl 3 rfl) ?_
              refine lv_imul hx hb dX5_small_122 ?_
              exact W.iret hx hb hr (fun t ht hW => ⟨⟨_, _, rfl, pr2 hM, hPt ht hP⟩, hS.F ht⟩) hS.2.2 dX5_small_123
      have L16 : ∀ (n : Nat) (c : HS) (v1 : Int32) (v2 : Int32) (v3 : Int32) (v4 : Int32) (H : Heap) (locs : List Loc) (ls : Array Slot), pX5_small_16 (pX5_small_2 n2) n c v1 v2 v3 v4 = some (r0, c9) → va_P (dC, dI) vwCl (wM ad cA c) H → va_S (fA 15 ad s.heap.size) s.heap H locs → lv_has ls 5 [(0, .ref (ad 0)), (1, .int v1), (2, .int v2), (3, .int v3), (4, .int v4)] → W p l e (headSpec wsX5_small ({ frames := 1, cells := 0, slots := 0, locals := 22 })).room s m ([.ref (ad 0), .int a1, .int a2]).toArray below meth cd H locs 0 0 (MQ below (gQi (dC, dI) (wM ad cA) (fA 15 ad s.heap.size) r0 c9) ([.ref (ad 0), .int a1, .int a2]).toArray s 0 0 (fA 15 ad s.heap.size)) (F0 m 16 ls []) := by
        intro n
        induction n with
        | zero =>
          intro c v1 v2 v3 v4 H locs ls hM
          exact absurd (Eq.symm (hM : none = some (r0, c9))) sm_ne
        | succ n16 ih16 =>
          intro c v1 v2 v3 v4 H locs ls hM hP hS hl
          unfold pX5_small_16 at hM
          refine lv_aload_n hx hb dX5_small_16 rfl (lv_at hl 0 rfl) ?_
          refine gget (v := .ref (ad 1)) hx hb hts i5 hown hK1 hP 0 rfl rfl 1 (by decide) f13 rfl rfl dX5_small_17 ?_
          refine lv_iload_n hx hb dX5_small_20 rfl (lv_at hl 3 rfl) ?_
          obtain ⟨h12, x11, hx11, hM⟩ := ldA_some sm_ne hM
          refine gald hx hb hK1 hP 1 0 rfl rfl h12 hx11 dX5_small_21 ?_
          refine lv_iconst (v := 1) hx hb dX5_small_22 (by decide) ?_
          refine lv_icmp_ne (tgt := 73) hx hb dX5_small_23 (by decide) (fun e20 => ?_) (fun e20 => ?_)
          · have hM := it_n e20 hM
            refine lv_iinc (v := v3 + 1) (lv' := [(3, .int (v3 + 1)), (0, .ref (ad 0)), (1, .int v1), (2, .int v2), (4, .int v4)]) hx hb dX5_small_73 hl (k := 3) rfl rfl (by decide) rfl (fun ls hl => ?_)
            refine lv_goto (tgt := 2) hx hb dX5_small_76 (by decide) ?_
            exact ih2 _ _ _ _ _ _ _ hM hP hS (lv_sub hl [1, 2, 3, 0] rfl)
          · have hM := it_p e20 hM
            refine lv_aload_n hx hb dX5_small_26 rfl (lv_at hl 0 rfl) ?_
            refine gget (v := .ref (ad 2)) hx hb hts i5 hown hK1 hP 0 rfl rfl 2 (by decide) f17 rfl rfl dX5_small_27 ?_
            refine lv_iload_n hx hb dX5_small_30 rfl (lv_at hl 3 rfl) ?_
            obtain ⟨h14, x13, hx13, hM⟩ := ldA_some sm_ne hM
            refine gald hx hb hK1 hP 2 1 rfl rfl h14 hx13 dX5_small_31 ?_
            refine lv_iload_n hx hb dX5_small_32 rfl (lv_at hl 1 rfl) ?_
            refine lv_icmp_ne (tgt := 73) hx hb dX5_small_33 (by decide) (fun e19 => ?_) (fun e19 => ?_)
            · have hM := it_n e19 hM
              refine lv_iinc (v := v3 + 1) (lv' := [(3, .int (v3 + 1)), (0, .ref (ad 0)), (1, .int v1), (2, .int v2), (4, .int v4)]) hx hb dX5_small_73 hl (k := 3) rfl rfl (by decide) rfl (fun ls hl => ?_)
              refine lv_goto (tgt := 2) hx hb dX5_small_76 (by decide) ?_
              exact ih2 _ _ _ _ _ _ _ hM hP hS (lv_sub hl [1, 2, 3, 0] rfl)
            · have hM := it_p e19 hM
              refine lv_iload hx hb dX5_small_36 (lv_at hl 4 rfl) ?_
              refine lv_bipush (v := 64) hx hb dX5_small_38 (by decide) ?_
              refine lv_iload_n hx hb dX5_small_40 rfl (lv_at hl 3 rfl) ?_
              refine lv_imul hx hb dX5_small_41 ?_
              refine lv_bipush (v := 64) hx hb dX5_small_42 (by decide) ?_
              refine lv_iadd hx hb dX5_small_44 ?_
              refine lv_icmp_ge (tgt := 73) hx hb dX5_small_45 (by decide) (fun e18 => ?_) (fun e18 => ?_)
              · have hM := it_p e18 hM
                refine lv_iinc (v := v3 + 1) (lv' := [(3, .int (v3 + 1)), (0, .ref (ad 0)), (1, .int v1), (2, .int v2), (4, .int v4)]) hx hb dX5_small_73 hl (k := 3) rfl rfl (by decide) rfl (fun ls hl => ?_)
                refine lv_goto (tgt := 2) hx hb dX5_small_76 (by decide) ?_
                exact ih2 _ _ _ _ _ _ _ hM hP hS (lv_sub hl [1, 2, 3, 0] rfl)
              · have hM := it_n e18 hM
                refine lv_aload_n hx hb dX5_small_48 rfl (lv_at hl 0 rfl) ?_
                refine gget (v := .ref (ad 6)) hx hb hts i5 hown hK1 hP 0 rfl rfl 6 (by decide) f30 rfl rfl dX5_small_49 ?_
                refine lv_iload hx hb dX5_small_52 (lv_at hl 4 rfl) ?_
                obtain ⟨h16, x15, hx15, hM⟩ := ldA_some sm_ne hM
                refine gzld hx hb hK1 hP 6 5 rfl rfl h16 hx15 dX5_small_54 ?_
                refine lv_if_ne (tgt := 61) hx hb dX5_small_55 (by decide) (fun e17 => ?_) (fun e17 => ?_)
                · have hM := it_n e17 hM
                  refine lv_iload hx hb dX5_small_61 (lv_at hl 4 rfl) ?_
                  refine lv_iload_n hx hb dX5_small_63 rfl (lv_at hl 1 rfl) ?_
                  refine gCi (gS (As := [.int v1]) (rest := [.int v4]) ⟨hx, hb, hml, hown, hts⟩ (kX5_cell l dC dI ad cA hap _ c v1 _ rfl) (va_cwS 1 hts gX5_small_X5_cell rfl rfl rfl (by decide +kernel) ⟨Nat.le_of_ble_eq_true rfl, Nat.le_of_ble_eq_true rfl⟩) (kM_st _ _) hK hP rfl hl.1 rfl (Nat.le_of_ble_eq_true rfl) dX5_small_64 ⟨Nat.zero_le _, Nat.zero_le _⟩) hS (fun H locs hP hS => ?_)
                  refine lv_iadd hx hb dX5_small_67 ?_
                  refine lv_istore (lv' := [(4, .int (v4 + (pX5_cell v1))), (0, .ref (ad 0)), (1, .int v1), (2, .int v2), (3, .int v3)]) hx hb dX5_small_68 hl (by decide) rfl (fun ls hl => ?_)
                  refine lv_goto (tgt := 16) hx hb dX5_small_70 (by decide) ?_
                  exact ih16 _ _ _ _ _ _ _ _ hM hP hS (lv_sub hl [1, 2, 3, 4, 0] rfl)
                · have hM := it_p e17 hM
                  refine lv_iload hx hb dX5_small_58 (lv_at hl 4 rfl) ?_
                  exact W.iret hx hb hr (fun t ht hW => ⟨⟨_, _, rfl, pr2 hM, hPt ht hP⟩, hS.F ht⟩) hS.2.2 dX5_small_60
      intro c v1 v2 v3 H locs ls hM hP hS hl
      unfold pX5_small_2 at hM
      refine lv_iload_n hx hb dX5_small_2 rfl (lv_at hl 3 rfl) ?_
      refine lv_aload_n hx hb dX5_small_3 rfl (lv_at hl 0 rfl) ?_
      refine gget (v := .int (c.1 0 0)) hx hb hts i5 hown hK1 hP 0 rfl rfl 0 (by decide) f7 rfl rfl dX5_small_4 ?_
      refine lv_icmp_ge (tgt := 79) hx hb dX5_small_7 (by decide) (fun e21 => ?_) (fun e21 => ?_)
      · have hM := it_p e21 hM
        refine lv_iconst (v := 0) hx hb dX5_small_79 (by decide) ?_
        refine lv_istore_n (lv' := [(3, .int 0), (0, .ref (ad 0)), (1, .int v1), (2, .int v2)]) hx hb dX5_small_80 rfl hl (by decide) rfl (fun ls hl => ?_)
        exact L81 _ _ _ _ _ _ _ _ hM hP hS (lv_sub hl [1, 2, 3, 0] rfl)
      · have hM := it_n e21 hM
        refine lv_bipush (v := 64) hx hb dX5_small_10 (by decide) ?_
        refine lv_iload_n hx hb dX5_small_12 rfl (lv_at hl 3 rfl) ?_
        refine lv_imul hx hb dX5_small_13 ?_
        refine lv_istore (lv' := [(4, .int (64 * v3)), (0, .ref (ad 0)), (1, .int v1), (2, .int v2), (3, .int v3)]) hx hb dX5_small_14 hl (by decide) rfl (fun ls hl => ?_)
        exact L16 _ _ _ _ _ _ _ _ _ hM hP hS (lv_sub hl [1, 2, 3, 4, 0] rfl)
  have hl := lv_entry [.ref (ad 0), .int a1, .int a2] (n := 5) (Nat.le_of_ble_eq_true rfl)
  rw [lg_entry_eq]
  generalize (lg_sl [.ref (ad 0), .int a1, .int a2] ++ List.replicate (5 - (lg_sl [.ref (ad 0), .int a1, .int a2]).length) Slot.unset).toArray = ls at hl ⊢
  have hl : lv_has ls 5 [(0, .ref (ad 0)), (1, .int a1), (2, .int a2)] := hl
  have hP : va_P (dC, dI) vwCl (wM ad cA c) s.heap := hP
  unfold pX5_small at hM
  refine lv_iconst (v := 0) hx hb dX5_small_0 (by decide) ?_
  refine lv_istore_n (lv' := [(3, .int 0), (0, .ref (ad 0)), (1, .int a1), (2, .int a2)]) hx hb dX5_small_1 rfl hl (by decide) rfl (fun ls hl => ?_)
  exact L2 _ _ _ _ _ _ _ _ hM hP hS (lv_sub hl [1, 2, 3, 0] rfl)
set_option maxHeartbeats 4000000 in
set_option maxRecDepth 100000 in
theorem kX5_place (l : Launch) (dC : Nat → ClassId) (dI : Nat → Nat → Nat) (ad : Nat → Nat) (cA : Nat → ClassId) (hap : apart 15 ad) (sz : Nat) (c : HS) (a1 : Int32) (a2 : Int32) (r0 : Int32) (c9 : HS) (hM : pX5_place c a1 a2 = some (r0, c9)) : Met l yX5_place wsX5_place ({ frames := 2, cells := 0, slots := 0, locals := 48 }) (gP (dC, dI) (wM ad cA) (kM (dC, dI) cA) c sz [.ref (ad 0), .int a1, .int a2]) (gQi (dC, dI) (wM ad cA) (fA 15 ad sz) r0 c9) 0 0 (fA 15 ad sz) := by
  refine Met.ofW (cc := cX5_place) (maxL := 4) (ret := (some .int)) (by decide) rfl ?_
  intro p e s m args below meth cd s₁ B hml hv
  obtain ⟨rfl, rfl, hP, hK⟩ := hv
  have hx := B.exec
  have hb := B.bytes
  have hr := B.returns
  have hts := atoms_spec (ws := wsX5_place) B.pre
  have hown : s.vm.findClass RX5 = some m.cls := findClass_of_methodNamed B.named
  have hlocks := B.notSynchronized
  have hK1 : va_K (dC, dI) vwCl (tM cA) s := hK
  have hD : ∀ c, va_D (fA 15 ad s.heap.size) (wM ad cA c) := fun c => dM_ok hap cA c _
  have hS : va_S (fA 15 ad s.heap.size) s.heap s.heap [] := va_S.rf
  have hl := lv_entry [.ref (ad 0), .int a1, .int a2] (n := 4) (Nat.le_of_ble_eq_true rfl)
  rw [lg_entry_eq]
  generalize (lg_sl [.ref (ad 0), .int a1, .int a2] ++ List.replicate (4 - (lg_sl [.ref (ad 0), .int a1, .int a2]).length) Slot.unset).toArray = ls at hl ⊢
  have hl : lv_has ls 4 [(0, .ref (ad 0)), (1, .int a1), (2, .int a2)] := hl
  have hP : va_P (dC, dI) vwCl (wM ad cA c) s.heap := hP
  unfold pX5_place at hM
  refine lv_iload_n hx hb dX5_place_0 rfl (lv_at hl 1 rfl) ?_
  obtain ⟨r2, h1, hM⟩ := bd1_some sm_ne hM
  refine gCi (gS (As := [.int a1]) (rest := []) ⟨hx, hb, hml, hown, hts⟩ (kX5_classOf l dC dI ad cA hap _ c a1 _ h1) (va_cwS 1 hts gX5_place_X5_classOf rfl rfl rfl (by decide +kernel) ⟨Nat.le_of_ble_eq_true rfl, Nat.le_of_ble_eq_true rfl⟩) (kM_st _ _) hK hP rfl hl.1 rfl (Nat.le_of_ble_eq_true rfl) dX5_place_1 ⟨Nat.zero_le _, Nat.zero_le _⟩) hS (fun H locs hP hS => ?_)
  refine lv_istore_n (lv' := [(3, .int r2), (0, .ref (ad 0)), (1, .int a1), (2, .int a2)]) hx hb dX5_place_4 rfl hl (by decide) rfl (fun ls hl => ?_)
  refine lv_iload_n hx hb dX5_place_5 rfl (lv_at hl 0 rfl) ?_
  refine lv_iconst (v := 5) hx hb dX5_place_6 (by decide) ?_
  refine lv_icmp_ne (tgt := 19) hx hb dX5_place_7 (by decide) (fun e9 => ?_) (fun e9 => ?_)
  · have hM := it_n e9 hM
    refine lv_aload_n hx hb dX5_place_19 rfl (lv_at hl 1 rfl) ?_
    refine lv_iload_n hx hb dX5_place_20 rfl (lv_at hl 0 rfl) ?_
    refine lv_iload_n hx hb dX5_place_21 rfl (lv_at hl 3 rfl) ?_
    obtain ⟨r5, c4, h3, hM⟩ := bd2_some sm_ne hM
    refine gCi (gV (As := [.int r2, .int a2]) (rest := []) ⟨hx, hb, hml, hown, hts⟩ (kX5_small l dC dI ad cA hap _ c r2 a2 _ _ h3) (cwV 2 hts gX5_place_X5_small rfl rfl rfl (by decide +kernel) ⟨Nat.le_of_ble_eq_true rfl, Nat.le_of_ble_eq_true rfl⟩) (kM_st _ _) hK hP (va_recv hK1 hP (ci := 5) (q0 := 0) rfl rfl) rfl hl.1 rfl (Nat.le_of_ble_eq_true rfl) dX5_place_22 ⟨Nat.zero_le _, Nat.zero_le _⟩) hS (fun H locs hP hS => ?_)
    exact W.iret hx hb hr (fun t ht hW => ⟨⟨_, _, rfl, pr2 hM, hPt ht hP⟩, hS.F ht⟩) hS.2.2 dX5_place_25
  · have hM := it_p e9 hM
    refine lv_aload_n hx hb dX5_place_10 rfl (lv_at hl 1 rfl) ?_
    refine lv_iload_n hx hb dX5_place_11 rfl (lv_at hl 2 rfl) ?_
    refine lv_iload_n hx hb dX5_place_12 rfl (lv_at hl 3 rfl) ?_
    obtain ⟨r8, c7, h6, hM⟩ := bd2_some sm_ne hM
    refine gCi (gV (As := [.int a1, .int a2]) (rest := []) ⟨hx, hb, hml, hown, hts⟩ (kX5_large l dC dI ad cA hap _ c a1 a2 _ _ h6) (cwV 2 hts gX5_place_X5_large rfl rfl rfl (by decide +kernel) ⟨Nat.le_of_ble_eq_true rfl, Nat.le_of_ble_eq_true rfl⟩) (kM_st _ _) hK hP (va_recv hK1 hP (ci := 5) (q0 := 0) rfl rfl) rfl hl.1 rfl (Nat.le_of_ble_eq_true rfl) dX5_place_13 ⟨Nat.zero_le _, Nat.zero_le _⟩) hS (fun H locs hP hS => ?_)
    refine lv_goto (tgt := 25) hx hb dX5_place_16 (by decide) ?_
    exact W.iret hx hb hr (fun t ht hW => ⟨⟨_, _, rfl, pr2 hM, hPt ht hP⟩, hS.F ht⟩) hS.2.2 dX5_place_25
set_option maxHeartbeats 4000000 in
set_option maxRecDepth 100000 in
theorem kX5_isLogged (l : Launch) (dC : Nat → ClassId) (dI : Nat → Nat → Nat) (ad : Nat → Nat) (cA : Nat → ClassId) (hap : apart 15 ad) (sz : Nat) (c : HS) (a1 : Int32) (r0 : Int32) (hM : pX5_isLogged c a1 = some r0) : Met l yX5_isLogged wsX5_isLogged ({ frames := 0, cells := 0, slots := 0, locals := 0 }) (gP (dC, dI) (wM ad cA) (kM (dC, dI) cA) c sz [.ref (ad 0), .int a1]) (gQi (dC, dI) (wM ad cA) (fA 15 ad sz) r0 c) 0 0 (fA 15 ad sz) := by
  refine Met.ofW (cc := cX5_isLogged) (maxL := 4) (ret := (some .boolean)) (by decide) rfl ?_
  intro p e s m args below meth cd s₁ B hml hv
  obtain ⟨rfl, rfl, hP, hK⟩ := hv
  have hx := B.exec
  have hb := B.bytes
  have hr := B.returns
  have hts := atoms_spec (ws := wsX5_isLogged) B.pre
  have hown : s.vm.findClass RX5 = some m.cls := findClass_of_methodNamed B.named
  have hlocks := B.notSynchronized
  have hK1 : va_K (dC, dI) vwCl (tM cA) s := hK
  have hD : ∀ c, va_D (fA 15 ad s.heap.size) (wM ad cA c) := fun c => dM_ok hap cA c _
  have hS : va_S (fA 15 ad s.heap.size) s.heap s.heap [] := va_S.rf
  have i5 : ∀ w ∈ u_ws RX5 TX5 27, w ∈ wsX5_isLogged := by decide +kernel
  have f51 := hts (.fieldLink RX5 51 "StickyHeapModel" "log" "[I") (by decide +kernel)
  have f72 := hts (.fieldLink RX5 72 "StickyHeapModel" "logged" "I") (by decide +kernel)
  have L4 : ∀ (n : Nat) (v1 : Int32) (v2 : Int32) (v3 : Int32) (H : Heap) (locs : List Loc) (ls : Array Slot), pX5_isLogged_4 c n v1 v2 v3 = some r0 → va_P (dC, dI) vwCl (wM ad cA c) H → va_S (fA 15 ad s.heap.size) s.heap H locs → lv_has ls 4 [(0, .ref (ad 0)), (1, .int v1), (2, .int v2), (3, .int v3)] → W p l e (headSpec wsX5_isLogged ({ frames := 0, cells := 0, slots := 0, locals := 0 })).room s m ([.ref (ad 0), .int a1]).toArray below meth cd H locs 0 0 (MQ below (gQi (dC, dI) (wM ad cA) (fA 15 ad s.heap.size) r0 c) ([.ref (ad 0), .int a1]).toArray s 0 0 (fA 15 ad s.heap.size)) (F0 m 4 ls []) := by
    intro n
    induction n with
    | zero =>
      intro v1 v2 v3 H locs ls hM
      exact absurd (Eq.symm (hM : none = some r0)) sm_ne
    | succ n4 ih4 =>
      intro v1 v2 v3 H locs ls hM hP hS hl
      unfold pX5_isLogged_4 at hM
      refine lv_iload_n hx hb dX5_isLogged_4 rfl (lv_at hl 3 rfl) ?_
      refine lv_aload_n hx hb dX5_isLogged_5 rfl (lv_at hl 0 rfl) ?_
      refine gget (v := .int (c.1 0 2)) hx hb hts i5 hown hK1 hP 0 rfl rfl 15 (by decide) f72 rfl rfl dX5_isLogged_6 ?_
      refine lv_icmp_ge (tgt := 38) hx hb dX5_isLogged_9 (by decide) (fun e6 => ?_) (fun e6 => ?_)
      · have hM := it_p e6 hM
        refine lv_iload_n hx hb dX5_isLogged_38 rfl (lv_at hl 2 rfl) ?_
        obtain ⟨h1, hM⟩ := gdZ_some sm_ne hM
        exact W.zret hx hb hr h1.1 (fun t ht hW => ⟨⟨_, _, rfl, ⟨pr1 hM, rfl⟩, hPt ht hP⟩, hS.F ht⟩) hS.2.2 dX5_isLogged_39
      · have hM := it_n e6 hM
        refine lv_iload_n hx hb dX5_isLogged_12 rfl (lv_at hl 2 rfl) ?_
        refine lv_if_ne (tgt := 26) hx hb dX5_isLogged_13 (by decide) (fun e5 => ?_) (fun e5 => ?_)
        · have hM := it_n e5 hM
          refine lv_iconst (v := 1) hx hb dX5_isLogged_26 (by decide) ?_
          refine lv_goto (tgt := 31) hx hb dX5_isLogged_27 (by decide) ?_
          refine lv_istore_n (lv' := [(2, .int 1), (0, .ref (ad 0)), (1, .int v1), (3, .int v3)]) hx hb dX5_isLogged_31 rfl hl (by decide) rfl (fun ls hl => ?_)
          refine lv_iinc (v := v3 + 1) (lv' := [(3, .int (v3 + 1)), (2, .int 1), (0, .ref (ad 0)), (1, .int v1)]) hx hb dX5_isLogged_32 hl (k := 3) rfl rfl (by decide) rfl (fun ls hl => ?_)
          refine lv_goto (tgt := 4) hx hb dX5_isLogged_35 (by decide) ?_
          exact ih4 _ _ _ _ _ _ hM hP hS (lv_sub hl [2, 3, 1, 0] rfl)
        · have hM := it_p e5 hM
          refine lv_aload_n hx hb dX5_isLogged_16 rfl (lv_at hl 0 rfl) ?_
          refine gget (v := .ref (ad 13)) hx hb hts i5 hown hK1 hP 0 rfl rfl 14 (by decide) f51 rfl rfl dX5_isLogged_17 ?_
          refine lv_iload_n hx hb dX5_isLogged_20 rfl (lv_at hl 3 rfl) ?_
          obtain ⟨h3, x2, hx2, hM⟩ := ldA_some sm_ne hM
          refine gald hx hb hK1 hP 13 12 rfl rfl h3 hx2 dX5_isLogged_21 ?_
          refine lv_iload_n hx hb dX5_isLogged_22 rfl (lv_at hl 1 rfl) ?_
          refine lv_icmp_ne (tgt := 30) hx hb dX5_isLogged_23 (by decide) (fun e4 => ?_) (fun e4 => ?_)
          · have hM := it_n e4 hM
            refine lv_iconst (v := 0) hx hb dX5_isLogged_30 (by decide) ?_
            refine lv_istore_n (lv' := [(2, .int 0), (0, .ref (ad 0)), (1, .int v1), (3, .int v3)]) hx hb dX5_isLogged_31 rfl hl (by decide) rfl (fun ls hl => ?_)
            refine lv_iinc (v := v3 + 1) (lv' := [(3, .int (v3 + 1)), (2, .int 0), (0, .ref (ad 0)), (1, .int v1)]) hx hb dX5_isLogged_32 hl (k := 3) rfl rfl (by decide) rfl (fun ls hl => ?_)
            refine lv_goto (tgt := 4) hx hb dX5_isLogged_35 (by decide) ?_
            exact ih4 _ _ _ _ _ _ hM hP hS (lv_sub hl [2, 3, 1, 0] rfl)
          · have hM := it_p e4 hM
            refine lv_iconst (v := 1) hx hb dX5_isLogged_26 (by decide) ?_
            refine lv_goto (tgt := 31) hx hb dX5_isLogged_27 (by decide) ?_
            refine lv_istore_n (lv' := [(2, .int 1), (0, .ref (ad 0)), (1, .int v1), (3, .int v3)]) hx hb dX5_isLogged_31 rfl hl (by decide) rfl (fun ls hl => ?_)
            refine lv_iinc (v := v3 + 1) (lv' := [(3, .int (v3 + 1)), (2, .int 1), (0, .ref (ad 0)), (1, .int v1)]) hx hb dX5_isLogged_32 hl (k := 3) rfl rfl (by decide) rfl (fun ls hl => ?_)
            refine lv_goto (tgt := 4) hx hb dX5_isLogged_35 (by decide) ?_
            exact ih4 _ _ _ _ _ _ hM hP hS (lv_sub hl [2, 3, 1, 0] rfl)
  have hl := lv_entry [.ref (ad 0), .int a1] (n := 4) (Nat.le_of_ble_eq_true rfl)
  rw [lg_entry_eq]
  generalize (lg_sl [.ref (ad 0), .int a1] ++ List.replicate (4 - (lg_sl [.ref (ad 0), .int a1]).length) Slot.unset).toArray = ls at hl ⊢
  have hl : lv_has ls 4 [(0, .ref (ad 0)), (1, .int a1)] := hl
  have hP : va_P (dC, dI) vwCl (wM ad cA c) s.heap := hP
  unfold pX5_isLogged at hM
  refine lv_iconst (v := 0) hx hb dX5_isLogged_0 (by decide) ?_
  refine lv_istore_n (lv' := [(2, .int 0), (0, .ref (ad 0)), (1, .int a1)]) hx hb dX5_isLogged_1 rfl hl (by decide) rfl (fun ls hl => ?_)
  refine lv_iconst (v := 0) hx hb dX5_isLogged_2 (by decide) ?_
  refine lv_istore_n (lv' := [(3, .int 0), (2, .int 0), (0, .ref (ad 0)), (1, .int a1)]) hx hb dX5_isLogged_3 rfl hl (by decide) rfl (fun ls hl => ?_)
  exact L4 _ _ _ _ _ _ _ hM hP hS (lv_sub hl [2, 3, 1, 0] rfl)
set_option maxHeartbeats 4000000 in
set_option maxRecDepth 100000 in
theorem kX5_isRemembered (l : Launch) (dC : Nat → ClassId) (dI : Nat → Nat → Nat) (ad : Nat → Nat) (cA : Nat → ClassId) (hap : apart 15 ad) (sz : Nat) (c : HS) (a1 : Int32) (r0 : Int32) (hM : pX5_isRemembered c a1 = some r0) : Met l yX5_isRemembered wsX5_isRemembered ({ frames := 1, cells := 0, slots := 0, locals := 23 }) (gP (dC, dI) (wM ad cA) (kM (dC, dI) cA) c sz [.ref (ad 0), .int a1]) (gQi (dC, dI) (wM ad cA) (fA 15 ad sz) r0 c) 0 0 (fA 15 ad sz) := by
  refine Met.ofW (cc := cX5_isRemembered) (maxL := 4) (ret := (some .boolean)) (by decide) rfl ?_
  intro p e s m args below meth cd s₁ B hml hv
  obtain ⟨rfl, rfl, hP, hK⟩ := hv
  have hx := B.exec
  have hb := B.bytes
  have hr := B.returns
  have hts := atoms_spec (ws := wsX5_isRemembered) B.pre
  have hown : s.vm.findClass RX5 = some m.cls := findClass_of_methodNamed B.named
  have hlocks := B.notSynchronized
  have hK1 : va_K (dC, dI) vwCl (tM cA) s := hK
  have hD : ∀ c, va_D (fA 15 ad s.heap.size) (wM ad cA c) := fun c => dM_ok hap cA c _
  have hS : va_S (fA 15 ad s.heap.size) s.heap s.heap [] := va_S.rf
  have i5 : ∀ w ∈ u_ws RX5 TX5 27, w ∈ wsX5_isRemembered := by decide +kernel
  have f20 := hts (.fieldLink RX5 20 "StickyHeapModel" "dirty" "[Z") (by decide +kernel)
  have f33 := hts (.fieldLink RX5 33 "StickyHeapModel" "isOld" "[Z") (by decide +kernel)
  have f39 := hts (.fieldLink RX5 39 "StickyHeapModel" "references" "[I") (by decide +kernel)
  have f75 := hts (.fieldLink RX5 75 "StickyHeapModel" "isOver" "Z") (by decide +kernel)
  have f81 := hts (.fieldLink RX5 81 "StickyHeapModel" "way" "I") (by decide +kernel)
  have L43 : ∀ (n : Nat) (v1 : Int32) (v2 : Int32) (v3 : Int32) (H : Heap) (locs : List Loc) (ls : Array Slot), pX5_isRemembered_43 c n v1 v2 v3 = some r0 → va_P (dC, dI) vwCl (wM ad cA c) H → va_S (fA 15 ad s.heap.size) s.heap H locs → lv_has ls 4 [(0, .ref (ad 0)), (1, .int v1), (2, .int v2), (3, .int v3)] → W p l e (headSpec wsX5_isRemembered ({ frames := 1, cells := 0, slots := 0, locals := 23 })).room s m ([.ref (ad 0), .int a1]).toArray below meth cd H locs 0 0 (MQ below (gQi (dC, dI) (wM ad cA) (fA 15 ad s.heap.size) r0 c) ([.ref (ad 0), .int a1]).toArray s 0 0 (fA 15 ad s.heap.size)) (F0 m 43 ls []) := by
    intro n
    induction n with
    | zero =>
      intro v1 v2 v3 H locs ls hM
      exact absurd (Eq.symm (hM : none = some r0)) sm_ne
    | succ n43 ih43 =>
      intro v1 v2 v3 H locs ls hM hP hS hl
      unfold pX5_isRemembered_43 at hM
      refine lv_iload_n hx hb dX5_isRemembered_43 rfl (lv_at hl 3 rfl) ?_
      refine lv_aload_n hx hb dX5_isRemembered_44 rfl (lv_at hl 0 rfl) ?_
      refine gget (v := .ref (ad 9)) hx hb hts i5 hown hK1 hP 0 rfl rfl 9 (by decide) f39 rfl rfl dX5_isRemembered_45 ?_
      refine lv_iload_n hx hb dX5_isRemembered_48 rfl (lv_at hl 1 rfl) ?_
      obtain ⟨h2, x1, hx1, hM⟩ := ldA_some sm_ne hM
      refine gald hx hb hK1 hP 9 8 rfl rfl h2 hx1 dX5_isRemembered_49 ?_
      refine lv_icmp_ge (tgt := 83) hx hb dX5_isRemembered_50 (by decide) (fun e8 => ?_) (fun e8 => ?_)
      · have hM := it_p e8 hM
        refine lv_iload_n hx hb dX5_isRemembered_83 rfl (lv_at hl 2 rfl) ?_
        obtain ⟨h3, hM⟩ := gdZ_some sm_ne hM
        exact W.zret hx hb hr h3.1 (fun t ht hW => ⟨⟨_, _, rfl, ⟨pr1 hM, rfl⟩, hPt ht hP⟩, hS.F ht⟩) hS.2.2 dX5_isRemembered_84
      · have hM := it_n e8 hM
        refine lv_iload_n hx hb dX5_isRemembered_53 rfl (lv_at hl 2 rfl) ?_
        refine lv_if_ne (tgt := 71) hx hb dX5_isRemembered_54 (by decide) (fun e7 => ?_) (fun e7 => ?_)
        · have hM := it_n e7 hM
          refine lv_iconst (v := 1) hx hb dX5_isRemembered_71 (by decide) ?_
          refine lv_goto (tgt := 76) hx hb dX5_isRemembered_72 (by decide) ?_
          refine lv_istore_n (lv' := [(2, .int 1), (0, .ref (ad 0)), (1, .int v1), (3, .int v3)]) hx hb dX5_isRemembered_76 rfl hl (by decide) rfl (fun ls hl => ?_)
          refine lv_iinc (v := v3 + 1) (lv' := [(3, .int (v3 + 1)), (2, .int 1), (0, .ref (ad 0)), (1, .int v1)]) hx hb dX5_isRemembered_77 hl (k := 3) rfl rfl (by decide) rfl (fun ls hl => ?_)
          refine lv_goto (tgt := 43) hx hb dX5_isRemembered_80 (by decide) ?_
          exact ih43 _ _ _ _ _ _ hM hP hS (lv_sub hl [2, 3, 1, 0] rfl)
        · have hM := it_p e7 hM
          refine lv_aload_n hx hb dX5_isRemembered_57 rfl (lv_at hl 0 rfl) ?_
          refine gget (v := .ref (ad 3)) hx hb hts i5 hown hK1 hP 0 rfl rfl 3 (by decide) f20 rfl rfl dX5_isRemembered_58 ?_
          refine lv_iload_n hx hb dX5_isRemembered_61 rfl (lv_at hl 1 rfl) ?_
          refine lv_iload_n hx hb dX5_isRemembered_62 rfl (lv_at hl 3 rfl) ?_
          refine lv_iadd hx hb dX5_isRemembered_63 ?_
          refine lv_bipush (v := 64) hx hb dX5_isRemembered_64 (by decide) ?_
          refine lv_idiv hx hb dX5_isRemembered_66 (by decide) ?_
          obtain ⟨h5, x4, hx4, hM⟩ := ldA_some sm_ne hM
          refine gzld hx hb hK1 hP 3 2 rfl rfl h5 hx4 dX5_isRemembered_67 ?_
          refine lv_if_eq (tgt := 75) hx hb dX5_isRemembered_68 (by decide) (fun e6 => ?_) (fun e6 => ?_)
          · have hM := it_p e6 hM
            refine lv_iconst (v := 0) hx hb dX5_isRemembered_75 (by decide) ?_
            refine lv_istore_n (lv' := [(2, .int 0), (0, .ref (ad 0)), (1, .int v1), (3, .int v3)]) hx hb dX5_isRemembered_76 rfl hl (by decide) rfl (fun ls hl => ?_)
            refine lv_iinc (v := v3 + 1) (lv' := [(3, .int (v3 + 1)), (2, .int 0), (0, .ref (ad 0)), (1, .int v1)]) hx hb dX5_isRemembered_77 hl (k := 3) rfl rfl (by decide) rfl (fun ls hl => ?_)
            refine lv_goto (tgt := 43) hx hb dX5_isRemembered_80 (by decide) ?_
            exact ih43 _ _ _ _ _ _ hM hP hS (lv_sub hl [2, 3, 1, 0] rfl)
          · have hM := it_n e6 hM
            refine lv_iconst (v := 1) hx hb dX5_isRemembered_71 (by decide) ?_
            refine lv_goto (tgt := 76) hx hb dX5_isRemembered_72 (by decide) ?_
            refine lv_istore_n (lv' := [(2, .int 1), (0, .ref (ad 0)), (1, .int v1), (3, .int v3)]) hx hb dX5_isRemembered_76 rfl hl (by decide) rfl (fun ls hl => ?_)
            refine lv_iinc (v := v3 + 1) (lv' := [(3, .int (v3 + 1)), (2, .int 1), (0, .ref (ad 0)), (1, .int v1)]) hx hb dX5_isRemembered_77 hl (k := 3) rfl rfl (by decide) rfl (fun ls hl => ?_)
            refine lv_goto (tgt := 43) hx hb dX5_isRemembered_80 (by decide) ?_
            exact ih43 _ _ _ _ _ _ hM hP hS (lv_sub hl [2, 3, 1, 0] rfl)
  have hl := lv_entry [.ref (ad 0), .int a1] (n := 4) (Nat.le_of_ble_eq_true rfl)
  rw [lg_entry_eq]
  generalize (lg_sl [.ref (ad 0), .int a1] ++ List.replicate (4 - (lg_sl [.ref (ad 0), .int a1]).length) Slot.unset).toArray = ls at hl ⊢
  have hl : lv_has ls 4 [(0, .ref (ad 0)), (1, .int a1)] := hl
  have hP : va_P (dC, dI) vwCl (wM ad cA c) s.heap := hP
  unfold pX5_isRemembered at hM
  refine lv_aload_n hx hb dX5_isRemembered_0 rfl (lv_at hl 0 rfl) ?_
  refine gget (v := .ref (ad 7)) hx hb hts i5 hown hK1 hP 0 rfl rfl 7 (by decide) f33 rfl rfl dX5_isRemembered_1 ?_
  refine lv_iload_n hx hb dX5_isRemembered_4 rfl (lv_at hl 1 rfl) ?_
  obtain ⟨h10, x9, hx9, hM⟩ := ldA_some sm_ne hM
  refine gzld hx hb hK1 hP 7 6 rfl rfl h10 hx9 dX5_isRemembered_5 ?_
  refine lv_if_ne (tgt := 11) hx hb dX5_isRemembered_6 (by decide) (fun e16 => ?_) (fun e16 => ?_)
  · have hM := it_n e16 hM
    refine lv_aload_n hx hb dX5_isRemembered_11 rfl (lv_at hl 0 rfl) ?_
    refine gget (v := .int (c.1 0 5)) hx hb hts i5 hown hK1 hP 0 rfl rfl 18 (by decide) f81 rfl rfl dX5_isRemembered_12 ?_
    refine lv_if_ne (tgt := 39) hx hb dX5_isRemembered_15 (by decide) (fun e15 => ?_) (fun e15 => ?_)
    · have hM := it_n e15 hM
      refine lv_iconst (v := 0) hx hb dX5_isRemembered_39 (by decide) ?_
      refine lv_istore_n (lv' := [(2, .int 0), (0, .ref (ad 0)), (1, .int a1)]) hx hb dX5_isRemembered_40 rfl hl (by decide) rfl (fun ls hl => ?_)
      refine lv_iconst (v := 0) hx hb dX5_isRemembered_41 (by decide) ?_
      refine lv_istore_n (lv' := [(3, .int 0), (2, .int 0), (0, .ref (ad 0)), (1, .int a1)]) hx hb dX5_isRemembered_42 rfl hl (by decide) rfl (fun ls hl => ?_)
      exact L43 _ _ _ _ _ _ _ hM hP hS (lv_sub hl [2, 3, 1, 0] rfl)
    · have hM := it_p e15 hM
      refine lv_aload_n hx hb dX5_isRemembered_18 rfl (lv_at hl 0 rfl) ?_
      refine gget (v := .int (c.1 0 3)) hx hb hts i5 hown hK1 hP 0 rfl rfl 16 (by decide) f75 rfl rfl dX5_isRemembered_19 ?_
      refine lv_if_ne (tgt := 33) hx hb dX5_isRemembered_22 (by decide) (fun e14 => ?_) (fun e14 => ?_)
      · have hM := it_n e14 hM
        refine lv_iconst (v := 1) hx hb dX5_isRemembered_33 (by decide) ?_
        refine lv_goto (tgt := 38) hx hb dX5_isRemembered_34 (by decide) ?_
        exact W.zret hx hb hr rfl (fun t ht hW => ⟨⟨_, _, rfl, ⟨pr1 hM, rfl⟩, hPt ht hP⟩, hS.F ht⟩) hS.2.2 dX5_isRemembered_38
      · have hM := it_p e14 hM
        refine lv_aload_n hx hb dX5_isRemembered_25 rfl (lv_at hl 0 rfl) ?_
        refine lv_iload_n hx hb dX5_isRemembered_26 rfl (lv_at hl 1 rfl) ?_
        obtain ⟨r12, h11, hM⟩ := bd1_some sm_ne hM
        refine gCi (gV (As := [.int a1]) (rest := []) ⟨hx, hb, hml, hown, hts⟩ (kX5_isLogged l dC dI ad cA hap _ c a1 _ h11) (cwV 1 hts gX5_isRemembered_X5_isLogged rfl rfl rfl (by decide +kernel) ⟨Nat.le_of_ble_eq_true rfl, Nat.le_of_ble_eq_true rfl⟩) (kM_st _ _) hK hP (va_recv hK1 hP (ci := 5) (q0 := 0) rfl rfl) rfl hl.1 rfl (Nat.le_of_ble_eq_true rfl) dX5_isRemembered_27 ⟨Nat.zero_le _, Nat.zero_le _⟩) hS (fun H locs hP hS => ?_)
        refine lv_if_eq (tgt := 37) hx hb dX5_isRemembered_30 (by decide) (fun e13 => ?_) (fun e13 => ?_)
        · have hM := it_p e13 hM
          refine lv_iconst (v := 0) hx hb dX5_isRemembered_37 (by decide) ?_
          exact W.zret hx hb hr rfl (fun t ht hW => ⟨⟨_, _, rfl, ⟨pr1 hM, rfl⟩, hPt ht hP⟩, hS.F ht⟩) hS.2.2 dX5_isRemembered_38
        · have hM := it_n e13 hM
          refine lv_iconst (v := 1) hx hb dX5_isRemembered_33 (by decide) ?_
          refine lv_goto (tgt := 38) hx hb dX5_isRemembered_34 (by decide) ?_
          exact W.zret hx hb hr rfl (fun t ht hW => ⟨⟨_, _, rfl, ⟨pr1 hM, rfl⟩, hPt ht hP⟩, hS.F ht⟩) hS.2.2 dX5_isRemembered_38
  · have hM := it_p e16 hM
    refine lv_iconst (v := 0) hx hb dX5_isRemembered_9 (by decide) ?_
    exact W.zret hx hb hr rfl (fun t ht hW => ⟨⟨_, _, rfl, ⟨pr1 hM, rfl⟩, hPt ht hP⟩, hS.F ht⟩) hS.2.2 dX5_isRemembered_10
set_option maxHeartbeats 4000000 in
set_option maxRecDepth 100000 in
theorem kX5_find (l : Launch) (dC : Nat → ClassId) (dI : Nat → Nat → Nat) (ad : Nat → Nat) (cA : Nat → ClassId) (hap : apart 15 ad) (sz : Nat) (c : HS) (a1 : Int32) (c9 : HS) (hM : pX5_find c a1 = some c9) : Met l yX5_find wsX5_find ({ frames := 0, cells := 0, slots := 0, locals := 0 }) (gP (dC, dI) (wM ad cA) (kM (dC, dI) cA) c sz [.ref (ad 0), .int a1]) (gQv (dC, dI) (wM ad cA) (fA 15 ad sz) c9) 0 0 (fA 15 ad sz) := by
  refine Met.ofW (cc := cX5_find) (maxL := 2) (ret := none) (by decide) rfl ?_
  intro p e s m args below meth cd s₁ B hml hv
  obtain ⟨rfl, rfl, hP, hK⟩ := hv
  have hx := B.exec
  have hb := B.bytes
  have hr := B.returns
  have hts := atoms_spec (ws := wsX5_find) B.pre
  have hown : s.vm.findClass RX5 = some m.cls := findClass_of_methodNamed B.named
  have hlocks := B.notSynchronized
  have hK1 : va_K (dC, dI) vwCl (tM cA) s := hK
  have hD : ∀ c, va_D (fA 15 ad s.heap.size) (wM ad cA c) := fun c => dM_ok hap cA c _
  have hS : va_S (fA 15 ad s.heap.size) s.heap s.heap [] := va_S.rf
  have i5 : ∀ w ∈ u_ws RX5 TX5 27, w ∈ wsX5_find := by decide +kernel
  have f33 := hts (.fieldLink RX5 33 "StickyHeapModel" "isOld" "[Z") (by decide +kernel)
  have f36 := hts (.fieldLink RX5 36 "StickyHeapModel" "isFound" "[Z") (by decide +kernel)
  have hl := lv_entry [.ref (ad 0), .int a1] (n := 2) (Nat.le_of_ble_eq_true rfl)
  rw [lg_entry_eq]
  generalize (lg_sl [.ref (ad 0), .int a1] ++ List.replicate (2 - (lg_sl [.ref (ad 0), .int a1]).length) Slot.unset).toArray = ls at hl ⊢
  have hl : lv_has ls 2 [(0, .ref (ad 0)), (1, .int a1)] := hl
  have hP : va_P (dC, dI) vwCl (wM ad cA c) s.heap := hP
  unfold pX5_find at hM
  refine lv_iload_n hx hb dX5_find_0 rfl (lv_at hl 1 rfl) ?_
  refine lv_iconst (v := (-1)) hx hb dX5_find_1 (by decide) ?_
  refine lv_icmp_eq (tgt := 21) hx hb dX5_find_2 (by decide) (fun e6 => ?_) (fun e6 => ?_)
  · have hM := it_p e6 hM
    exact W.vret hx hb hr (fun t ht hW => ⟨⟨_, rfl, pr1 hM, hPt ht hP⟩, hS.F ht⟩) hS.2.2 dX5_find_21
  · have hM := it_n e6 hM
    refine lv_aload_n hx hb dX5_find_5 rfl (lv_at hl 0 rfl) ?_
    refine gget (v := .ref (ad 7)) hx hb hts i5 hown hK1 hP 0 rfl rfl 7 (by decide) f33 rfl rfl dX5_find_6 ?_
    refine lv_iload_n hx hb dX5_find_9 rfl (lv_at hl 1 rfl) ?_
    obtain ⟨h2, x1, hx1, hM⟩ := ldA_some sm_ne hM
    refine gzld hx hb hK1 hP 7 6 rfl rfl h2 hx1 dX5_find_10 ?_
    refine lv_if_ne (tgt := 21) hx hb dX5_find_11 (by decide) (fun e5 => ?_) (fun e5 => ?_)
    · have hM := it_n e5 hM
      exact W.vret hx hb hr (fun t ht hW => ⟨⟨_, rfl, pr1 hM, hPt ht hP⟩, hS.F ht⟩) hS.2.2 dX5_find_21
    · have hM := it_p e5 hM
      refine lv_aload_n hx hb dX5_find_14 rfl (lv_at hl 0 rfl) ?_
      refine gget (v := .ref (ad 8)) hx hb hts i5 hown hK1 hP 0 rfl rfl 8 (by decide) f36 rfl rfl dX5_find_15 ?_
      refine lv_iload_n hx hb dX5_find_18 rfl (lv_at hl 1 rfl) ?_
      refine lv_iconst (v := 1) hx hb dX5_find_19 (by decide) ?_
      obtain ⟨h4, h4z, c3, hc3, hM⟩ := stZ_some sm_ne hM
      refine gzst (w := wM ad cA) (c := c) (c1 := c3) hx hb hK1 hP (hD c) hS 8 7 rfl rfl h4 h4z (by rw [hc3]; rfl) dX5_find_20 (fun H locs hP hS => ?_)
      exact W.vret hx hb hr (fun t ht hW => ⟨⟨_, rfl, pr1 hM, hPt ht hP⟩, hS.F ht⟩) hS.2.2 dX5_find_21
set_option maxHeartbeats 4000000 in
set_option maxRecDepth 100000 in
theorem kX5_findAll (l : Launch) (dC : Nat → ClassId) (dI : Nat → Nat → Nat) (ad : Nat → Nat) (cA : Nat → ClassId) (hap : apart 15 ad) (sz : Nat) (c : HS) (a1 : Int32) (c9 : HS) (hM : pX5_findAll c a1 = some c9) : Met l yX5_findAll wsX5_findAll ({ frames := 1, cells := 0, slots := 0, locals := 21 }) (gP (dC, dI) (wM ad cA) (kM (dC, dI) cA) c sz [.ref (ad 0), .int a1]) (gQv (dC, dI) (wM ad cA) (fA 15 ad sz) c9) 0 0 (fA 15 ad sz) := by
  refine Met.ofW (cc := cX5_findAll) (maxL := 3) (ret := none) (by decide) rfl ?_
  intro p e s m args below meth cd s₁ B hml hv
  obtain ⟨rfl, rfl, hP, hK⟩ := hv
  have hx := B.exec
  have hb := B.bytes
  have hr := B.returns
  have hts := atoms_spec (ws := wsX5_findAll) B.pre
  have hown : s.vm.findClass RX5 = some m.cls := findClass_of_methodNamed B.named
  have hlocks := B.notSynchronized
  have hK1 : va_K (dC, dI) vwCl (tM cA) s := hK
  have hD : ∀ c, va_D (fA 15 ad s.heap.size) (wM ad cA c) := fun c => dM_ok hap cA c _
  have hS : va_S (fA 15 ad s.heap.size) s.heap s.heap [] := va_S.rf
  have i5 : ∀ w ∈ u_ws RX5 TX5 27, w ∈ wsX5_findAll := by decide +kernel
  have f27 := hts (.fieldLink RX5 27 "StickyHeapModel" "words" "[I") (by decide +kernel)
  have f39 := hts (.fieldLink RX5 39 "StickyHeapModel" "references" "[I") (by decide +kernel)
  have f141 := hts (.fieldLink RX5 141 "StickyHeapModel" "lookedAt" "I") (by decide +kernel)
  have L2 : ∀ (n : Nat) (c : HS) (v1 : Int32) (v2 : Int32) (H : Heap) (locs : List Loc) (ls : Array Slot), pX5_findAll_2 n c v1 v2 = some c9 → va_P (dC, dI) vwCl (wM ad cA c) H → va_S (fA 15 ad s.heap.size) s.heap H locs → lv_has ls 3 [(0, .ref (ad 0)), (1, .int v1), (2, .int v2)] → W p l e (headSpec wsX5_findAll ({ frames := 1, cells := 0, slots := 0, locals := 21 })).room s m ([.ref (ad 0), .int a1]).toArray below meth cd H locs 0 0 (MQ below (gQv (dC, dI) (wM ad cA) (fA 15 ad s.heap.size) c9) ([.ref (ad 0), .int a1]).toArray s 0 0 (fA 15 ad s.heap.size)) (F0 m 2 ls []) := by
    intro n
    induction n with
    | zero =>
      intro c v1 v2 H locs ls hM
      exact absurd (Eq.symm (hM : none = some c9)) sm_ne
    | succ n2 ih2 =>
      intro c v1 v2 H locs ls hM hP hS hl
      unfold pX5_findAll_2 at hM
      refine lv_iload_n hx hb dX5_findAll_2 rfl (lv_at hl 2 rfl) ?_
      refine lv_aload_n hx hb dX5_findAll_3 rfl (lv_at hl 0 rfl) ?_
      refine gget (v := .ref (ad 9)) hx hb hts i5 hown hK1 hP 0 rfl rfl 9 (by decide) f39 rfl rfl dX5_findAll_4 ?_
      refine lv_iload_n hx hb dX5_findAll_7 rfl (lv_at hl 1 rfl) ?_
      obtain ⟨h2, x1, hx1, hM⟩ := ldA_some sm_ne hM
      refine gald hx hb hK1 hP 9 8 rfl rfl h2 hx1 dX5_findAll_8 ?_
      refine lv_icmp_ge (tgt := 30) hx hb dX5_findAll_9 (by decide) (fun e10 => ?_) (fun e10 => ?_)
      · have hM := it_p e10 hM
        refine lv_aload_n hx hb dX5_findAll_30 rfl (lv_at hl 0 rfl) ?_
        refine lv_dup hx hb dX5_findAll_31 rfl ?_
        refine gget (v := .int (c.1 0 11)) hx hb hts i5 hown hK1 hP 0 rfl rfl 24 (by decide) f141 rfl rfl dX5_findAll_32 ?_
        refine lv_aload_n hx hb dX5_findAll_35 rfl (lv_at hl 0 rfl) ?_
        refine gget (v := .ref (ad 9)) hx hb hts i5 hown hK1 hP 0 rfl rfl 9 (by decide) f39 rfl rfl dX5_findAll_36 ?_
        refine lv_iload_n hx hb dX5_findAll_39 rfl (lv_at hl 1 rfl) ?_
        obtain ⟨h4, x3, hx3, hM⟩ := ldA_some sm_ne hM
        refine gald hx hb hK1 hP 9 8 rfl rfl h4 hx3 dX5_findAll_40 ?_
        refine lv_iadd hx hb dX5_findAll_41 ?_
        obtain ⟨c5, hc5, hM⟩ := pfA_some hM
        refine gput (w := wM ad cA) (c := c) (c1 := c5) (v := .int ((c.1 0 11) + x3)) hx hb hts i5 tyX5 tyX5_ok nmX5 hown hK1 hP (hD c) hS 0 rfl rfl 24 (by decide) f141 rfl rfl rfl rfl (Nat.le_of_ble_eq_true rfl) (by rw [hc5]; rfl) dX5_findAll_42 (fun H locs hP hS => ?_)
        exact W.vret hx hb hr (fun t ht hW => ⟨⟨_, rfl, pr1 hM, hPt ht hP⟩, hS.F ht⟩) hS.2.2 dX5_findAll_45
      · have hM := it_n e10 hM
        refine lv_aload_n hx hb dX5_findAll_12 rfl (lv_at hl 0 rfl) ?_
        refine lv_aload_n hx hb dX5_findAll_13 rfl (lv_at hl 0 rfl) ?_
        refine gget (v := .ref (ad 5)) hx hb hts i5 hown hK1 hP 0 rfl rfl 5 (by decide) f27 rfl rfl dX5_findAll_14 ?_
        refine lv_iload_n hx hb dX5_findAll_17 rfl (lv_at hl 1 rfl) ?_
        refine lv_iload_n hx hb dX5_findAll_18 rfl (lv_at hl 2 rfl) ?_
        refine lv_iadd hx hb dX5_findAll_19 ?_
        obtain ⟨h7, x6, hx6, hM⟩ := ldA_some sm_ne hM
        refine gald hx hb hK1 hP 5 4 rfl rfl h7 hx6 dX5_findAll_20 ?_
        obtain ⟨c9, h8, hM⟩ := bd1_some sm_ne hM
        refine gCv (gV (As := [.int x6]) (rest := []) ⟨hx, hb, hml, hown, hts⟩ (kX5_find l dC dI ad cA hap _ c x6 _ h8) (cwV 1 hts gX5_findAll_X5_find rfl rfl rfl (by decide +kernel) ⟨Nat.le_of_ble_eq_true rfl, Nat.le_of_ble_eq_true rfl⟩) (kM_st _ _) hK hP (va_recv hK1 hP (ci := 5) (q0 := 0) rfl rfl) rfl hl.1 rfl (Nat.le_of_ble_eq_true rfl) dX5_findAll_21 ⟨Nat.zero_le _, Nat.zero_le _⟩) hS (fun H locs hP hS => ?_)
        refine lv_iinc (v := v2 + 1) (lv' := [(2, .int (v2 + 1)), (0, .ref (ad 0)), (1, .int v1)]) hx hb dX5_findAll_24 hl (k := 2) rfl rfl (by decide) rfl (fun ls hl => ?_)
        refine lv_goto (tgt := 2) hx hb dX5_findAll_27 (by decide) ?_
        exact ih2 _ _ _ _ _ _ hM hP hS (lv_sub hl [1, 2, 0] rfl)
  have hl := lv_entry [.ref (ad 0), .int a1] (n := 3) (Nat.le_of_ble_eq_true rfl)
  rw [lg_entry_eq]
  generalize (lg_sl [.ref (ad 0), .int a1] ++ List.replicate (3 - (lg_sl [.ref (ad 0), .int a1]).length) Slot.unset).toArray = ls at hl ⊢
  have hl : lv_has ls 3 [(0, .ref (ad 0)), (1, .int a1)] := hl
  have hP : va_P (dC, dI) vwCl (wM ad cA c) s.heap := hP
  unfold pX5_findAll at hM
  refine lv_iconst (v := 0) hx hb dX5_findAll_0 (by decide) ?_
  refine lv_istore_n (lv' := [(2, .int 0), (0, .ref (ad 0)), (1, .int a1)]) hx hb dX5_findAll_1 rfl hl (by decide) rfl (fun ls hl => ?_)
  exact L2 _ _ _ _ _ _ _ hM hP hS (lv_sub hl [1, 2, 0] rfl)
set_option maxHeartbeats 4000000 in
set_option maxRecDepth 100000 in
theorem kX5_points (l : Launch) (dC : Nat → ClassId) (dI : Nat → Nat → Nat) (ad : Nat → Nat) (cA : Nat → ClassId) (hap : apart 15 ad) (sz : Nat) (c : HS) (a1 : Int32) (r0 : Int32) (hM : pX5_points c a1 = some r0) : Met l yX5_points wsX5_points ({ frames := 1, cells := 0, slots := 0, locals := 22 }) (gP (dC, dI) (wM ad cA) (kM (dC, dI) cA) c sz [.ref (ad 0), .int a1]) (gQi (dC, dI) (wM ad cA) (fA 15 ad sz) r0 c) 0 0 (fA 15 ad sz) := by
  refine Met.ofW (cc := cX5_points) (maxL := 4) (ret := (some .int)) (by decide) rfl ?_
  intro p e s m args below meth cd s₁ B hml hv
  obtain ⟨rfl, rfl, hP, hK⟩ := hv
  have hx := B.exec
  have hb := B.bytes
  have hr := B.returns
  have hts := atoms_spec (ws := wsX5_points) B.pre
  have hown : s.vm.findClass RX5 = some m.cls := findClass_of_methodNamed B.named
  have hlocks := B.notSynchronized
  have hK1 : va_K (dC, dI) vwCl (tM cA) s := hK
  have hD : ∀ c, va_D (fA 15 ad s.heap.size) (wM ad cA c) := fun c => dM_ok hap cA c _
  have hS : va_S (fA 15 ad s.heap.size) s.heap s.heap [] := va_S.rf
  have i5 : ∀ w ∈ u_ws RX5 TX5 27, w ∈ wsX5_points := by decide +kernel
  have f7 := hts (.fieldLink RX5 7 "StickyHeapModel" "blocks" "I") (by decide +kernel)
  have f13 := hts (.fieldLink RX5 13 "StickyHeapModel" "sorts" "[I") (by decide +kernel)
  have f17 := hts (.fieldLink RX5 17 "StickyHeapModel" "classes" "[I") (by decide +kernel)
  have f30 := hts (.fieldLink RX5 30 "StickyHeapModel" "begins" "[Z") (by decide +kernel)
  have L74 : ∀ (n : Nat) (v2 : Int32) (H : Heap) (locs : List Loc) (ls : Array Slot), pX5_points_74 c n v2 = some r0 → va_P (dC, dI) vwCl (wM ad cA c) H → va_S (fA 15 ad s.heap.size) s.heap H locs → lv_has ls 4 [(0, .ref (ad 0)), (2, .int v2)] → W p l e (headSpec wsX5_points ({ frames := 1, cells := 0, slots := 0, locals := 22 })).room s m ([.ref (ad 0), .int a1]).toArray below meth cd H locs 0 0 (MQ below (gQi (dC, dI) (wM ad cA) (fA 15 ad s.heap.size) r0 c) ([.ref (ad 0), .int a1]).toArray s 0 0 (fA 15 ad s.heap.size)) (F0 m 74 ls []) := by
    intro n
    induction n with
    | zero =>
      intro v2 H locs ls hM
      exact absurd (Eq.symm (hM : none = some r0)) sm_ne
    | succ n74 ih74 =>
      intro v2 H locs ls hM hP hS hl
      unfold pX5_points_74 at hM
      refine lv_aload_n hx hb dX5_points_74 rfl (lv_at hl 0 rfl) ?_
      refine gget (v := .ref (ad 1)) hx hb hts i5 hown hK1 hP 0 rfl rfl 1 (by decide) f13 rfl rfl dX5_points_75 ?_
      refine lv_iload_n hx hb dX5_points_78 rfl (lv_at hl 1 rfl) ?_
      obtain ⟨h2, x1, hx1, hM⟩ := ldA_some sm_ne hM
      refine gald hx hb hK1 hP 1 0 rfl rfl h2 hx1 dX5_points_79 ?_
      refine lv_iconst (v := 3) hx hb dX5_points_80 (by decide) ?_
      refine lv_icmp_ne (tgt := 90) hx hb dX5_points_81 (by decide) (fun e3 => ?_) (fun e3 => ?_)
      · have hM := it_n e3 hM
        refine lv_bipush (v := 64) hx hb dX5_points_90 (by decide) ?_
        refine lv_iload_n hx hb dX5_points_92 rfl (lv_at hl 1 rfl) ?_
        refine lv_imul hx hb dX5_points_93 ?_
        exact W.iret hx hb hr (fun t ht hW => ⟨⟨_, _, rfl, ⟨pr1 hM, rfl⟩, hPt ht hP⟩, hS.F ht⟩) hS.2.2 dX5_points_94
      · have hM := it_p e3 hM
        refine lv_iinc (v := v2 + (-1)) (lv' := [(2, .int (v2 + (-1))), (0, .ref (ad 0))]) hx hb dX5_points_84 hl (k := 1) rfl rfl (by decide) rfl (fun ls hl => ?_)
        refine lv_goto (tgt := 74) hx hb dX5_points_87 (by decide) ?_
        exact ih74 _ _ _ _ hM hP hS (lv_sub hl [1, 0] rfl)
  have hl := lv_entry [.ref (ad 0), .int a1] (n := 4) (Nat.le_of_ble_eq_true rfl)
  rw [lg_entry_eq]
  generalize (lg_sl [.ref (ad 0), .int a1] ++ List.replicate (4 - (lg_sl [.ref (ad 0), .int a1]).length) Slot.unset).toArray = ls at hl ⊢
  have hl : lv_has ls 4 [(0, .ref (ad 0)), (1, .int a1)] := hl
  have hP : va_P (dC, dI) vwCl (wM ad cA c) s.heap := hP
  unfold pX5_points at hM
  refine lv_iload_n hx hb dX5_points_0 rfl (lv_at hl 1 rfl) ?_
  refine lv_iconst (v := 0) hx hb dX5_points_1 (by decide) ?_
  refine lv_bipush (v := 64) hx hb dX5_points_2 (by decide) ?_
  refine lv_aload_n hx hb dX5_points_4 rfl (lv_at hl 0 rfl) ?_
  refine gget (v := .int (c.1 0 0)) hx hb hts i5 hown hK1 hP 0 rfl rfl 0 (by decide) f7 rfl rfl dX5_points_5 ?_
  refine lv_imul hx hb dX5_points_8 ?_
  refine lv_iconst (v := 1) hx hb dX5_points_9 (by decide) ?_
  refine lv_isub hx hb dX5_points_10 ?_
  refine gCi (gS (As := [.int a1, .int 0, .int ((64 * (c.1 0 0)) - 1)]) (rest := []) ⟨hx, hb, hml, hown, hts⟩ (kX5_in l dC dI ad cA hap _ c a1 0 ((64 * (c.1 0 0)) - 1) _ rfl) (va_cwS 3 hts gX5_points_X5_in rfl rfl rfl (by decide +kernel) ⟨Nat.le_of_ble_eq_true rfl, Nat.le_of_ble_eq_true rfl⟩) (kM_st _ _) hK hP rfl hl.1 rfl (Nat.le_of_ble_eq_true rfl) dX5_points_11 ⟨Nat.zero_le _, Nat.zero_le _⟩) hS (fun H locs hP hS => ?_)
  refine lv_if_ne (tgt := 19) hx hb dX5_points_14 (by decide) (fun e16 => ?_) (fun e16 => ?_)
  · have hM := it_n e16 hM
    refine lv_iload_n hx hb dX5_points_19 rfl (lv_at hl 1 rfl) ?_
    refine lv_bipush (v := 64) hx hb dX5_points_20 (by decide) ?_
    refine lv_idiv hx hb dX5_points_22 (by decide) ?_
    refine lv_istore_n (lv' := [(2, .int (a1 / 64)), (0, .ref (ad 0)), (1, .int a1)]) hx hb dX5_points_23 rfl hl (by decide) rfl (fun ls hl => ?_)
    refine lv_aload_n hx hb dX5_points_24 rfl (lv_at hl 1 rfl) ?_
    refine gget (v := .ref (ad 1)) hx hb hts i5 hown hK1 hP 0 rfl rfl 1 (by decide) f13 rfl rfl dX5_points_25 ?_
    refine lv_iload_n hx hb dX5_points_28 rfl (lv_at hl 0 rfl) ?_
    obtain ⟨h5, x4, hx4, hM⟩ := ldA_some sm_ne hM
    refine gald hx hb hK1 hP 1 0 rfl rfl h5 hx4 dX5_points_29 ?_
    refine lv_if_ne (tgt := 35) hx hb dX5_points_30 (by decide) (fun e15 => ?_) (fun e15 => ?_)
    · have hM := it_n e15 hM
      refine lv_aload_n hx hb dX5_points_35 rfl (lv_at hl 1 rfl) ?_
      refine gget (v := .ref (ad 1)) hx hb hts i5 hown hK1 hP 0 rfl rfl 1 (by decide) f13 rfl rfl dX5_points_36 ?_
      refine lv_iload_n hx hb dX5_points_39 rfl (lv_at hl 0 rfl) ?_
      obtain ⟨h7, x6, hx6, hM⟩ := ldA_some sm_ne hM
      refine gald hx hb hK1 hP 1 0 rfl rfl h7 hx6 dX5_points_40 ?_
      refine lv_iconst (v := 1) hx hb dX5_points_41 (by decide) ?_
      refine lv_icmp_ne (tgt := 74) hx hb dX5_points_42 (by decide) (fun e14 => ?_) (fun e14 => ?_)
      · have hM := it_n e14 hM
        exact L74 _ _ _ _ _ hM hP hS (lv_sub hl [1, 0] rfl)
      · have hM := it_p e14 hM
        refine lv_iload_n hx hb dX5_points_45 rfl (lv_at hl 2 rfl) ?_
        refine lv_iload_n hx hb dX5_points_46 rfl (lv_at hl 2 rfl) ?_
        refine lv_aload_n hx hb dX5_points_47 rfl (lv_at hl 1 rfl) ?_
        refine gget (v := .ref (ad 2)) hx hb hts i5 hown hK1 hP 0 rfl rfl 2 (by decide) f17 rfl rfl dX5_points_48 ?_
        refine lv_iload_n hx hb dX5_points_51 rfl (lv_at hl 0 rfl) ?_
        obtain ⟨h9, x8, hx8, hM⟩ := ldA_some sm_ne hM
        refine gald hx hb hK1 hP 2 1 rfl rfl h9 hx8 dX5_points_52 ?_
        refine gCi (gS (As := [.int x8]) (rest := [.int a1, .int a1]) ⟨hx, hb, hml, hown, hts⟩ (kX5_cell l dC dI ad cA hap _ c x8 _ rfl) (va_cwS 1 hts gX5_points_X5_cell rfl rfl rfl (by decide +kernel) ⟨Nat.le_of_ble_eq_true rfl, Nat.le_of_ble_eq_true rfl⟩) (kM_st _ _) hK hP rfl hl.1 rfl (Nat.le_of_ble_eq_true rfl) dX5_points_53 ⟨Nat.zero_le _, Nat.zero_le _⟩) hS (fun H locs hP hS => ?_)
        obtain ⟨h10, hM⟩ := gdN_some sm_ne hM
        refine lv_irem hx hb dX5_points_56 h10 ?_
        refine lv_isub hx hb dX5_points_57 ?_
        refine lv_istore_n (lv' := [(3, .int (a1 - (a1 - a1 / (pX5_cell x8) * (pX5_cell x8)))), (2, .int (a1 / 64)), (0, .ref (ad 0)), (1, .int a1)]) hx hb dX5_points_58 rfl hl (by decide) rfl (fun ls hl => ?_)
        refine lv_aload_n hx hb dX5_points_59 rfl (lv_at hl 2 rfl) ?_
        refine gget (v := .ref (ad 6)) hx hb hts i5 hown hK1 hP 0 rfl rfl 6 (by decide) f30 rfl rfl dX5_points_60 ?_
        refine lv_iload_n hx hb dX5_points_63 rfl (lv_at hl 0 rfl) ?_
        obtain ⟨h12, x11, hx11, hM⟩ := ldA_some sm_ne hM
        refine gzld hx hb hK1 hP 6 5 rfl rfl h12 hx11 dX5_points_64 ?_
        refine lv_if_eq (tgt := 72) hx hb dX5_points_65 (by decide) (fun e13 => ?_) (fun e13 => ?_)
        · have hM := it_p e13 hM
          refine lv_iconst (v := (-1)) hx hb dX5_points_72 (by decide) ?_
          exact W.iret hx hb hr (fun t ht hW => ⟨⟨_, _, rfl, ⟨pr1 hM, rfl⟩, hPt ht hP⟩, hS.F ht⟩) hS.2.2 dX5_points_73
        · have hM := it_n e13 hM
          refine lv_iload_n hx hb dX5_points_68 rfl (lv_at hl 0 rfl) ?_
          refine lv_goto (tgt := 73) hx hb dX5_points_69 (by decide) ?_
          exact W.iret hx hb hr (fun t ht hW => ⟨⟨_, _, rfl, ⟨pr1 hM, rfl⟩, hPt ht hP⟩, hS.F ht⟩) hS.2.2 dX5_points_73
    · have hM := it_p e15 hM
      refine lv_iconst (v := (-1)) hx hb dX5_points_33 (by decide) ?_
      exact W.iret hx hb hr (fun t ht hW => ⟨⟨_, _, rfl, ⟨pr1 hM, rfl⟩, hPt ht hP⟩, hS.F ht⟩) hS.2.2 dX5_points_34
  · have hM := it_p e16 hM
    refine lv_iconst (v := (-1)) hx hb dX5_points_17 (by decide) ?_
    exact W.iret hx hb hr (fun t ht hW => ⟨⟨_, _, rfl, ⟨pr1 hM, rfl⟩, hPt ht hP⟩, hS.F ht⟩) hS.2.2 dX5_points_18
set_option maxHeartbeats 4000000 in
set_option maxRecDepth 100000 in
theorem kX5_size (l : Launch) (dC : Nat → ClassId) (dI : Nat → Nat → Nat) (ad : Nat → Nat) (cA : Nat → ClassId) (hap : apart 15 ad) (sz : Nat) (c : HS) (a1 : Int32) (r0 : Int32) (hM : pX5_size c a1 = some r0) : Met l yX5_size wsX5_size ({ frames := 0, cells := 0, slots := 0, locals := 0 }) (gP (dC, dI) (wM ad cA) (kM (dC, dI) cA) c sz [.ref (ad 0), .int a1]) (gQi (dC, dI) (wM ad cA) (fA 15 ad sz) r0 c) 0 0 (fA 15 ad sz) := by
  refine Met.ofW (cc := cX5_size) (maxL := 2) (ret := (some .int)) (by decide) rfl ?_
  intro p e s m args below meth cd s₁ B hml hv
  obtain ⟨rfl, rfl, hP, hK⟩ := hv
  have hx := B.exec
  have hb := B.bytes
  have hr := B.returns
  have hts := atoms_spec (ws := wsX5_size) B.pre
  have hown : s.vm.findClass RX5 = some m.cls := findClass_of_methodNamed B.named
  have hlocks := B.notSynchronized
  have hK1 : va_K (dC, dI) vwCl (tM cA) s := hK
  have hD : ∀ c, va_D (fA 15 ad s.heap.size) (wM ad cA c) := fun c => dM_ok hap cA c _
  have hS : va_S (fA 15 ad s.heap.size) s.heap s.heap [] := va_S.rf
  have i5 : ∀ w ∈ u_ws RX5 TX5 27, w ∈ wsX5_size := by decide +kernel
  have f39 := hts (.fieldLink RX5 39 "StickyHeapModel" "references" "[I") (by decide +kernel)
  have f42 := hts (.fieldLink RX5 42 "StickyHeapModel" "numbers" "[I") (by decide +kernel)
  have hl := lv_entry [.ref (ad 0), .int a1] (n := 2) (Nat.le_of_ble_eq_true rfl)
  rw [lg_entry_eq]
  generalize (lg_sl [.ref (ad 0), .int a1] ++ List.replicate (2 - (lg_sl [.ref (ad 0), .int a1]).length) Slot.unset).toArray = ls at hl ⊢
  have hl : lv_has ls 2 [(0, .ref (ad 0)), (1, .int a1)] := hl
  have hP : va_P (dC, dI) vwCl (wM ad cA c) s.heap := hP
  unfold pX5_size at hM
  refine lv_aload_n hx hb dX5_size_0 rfl (lv_at hl 0 rfl) ?_
  refine gget (v := .ref (ad 9)) hx hb hts i5 hown hK1 hP 0 rfl rfl 9 (by decide) f39 rfl rfl dX5_size_1 ?_
  refine lv_iload_n hx hb dX5_size_4 rfl (lv_at hl 1 rfl) ?_
  obtain ⟨h2, x1, hx1, hM⟩ := ldA_some sm_ne hM
  refine gald hx hb hK1 hP 9 8 rfl rfl h2 hx1 dX5_size_5 ?_
  refine lv_aload_n hx hb dX5_size_6 rfl (lv_at hl 0 rfl) ?_
  refine gget (v := .ref (ad 10)) hx hb hts i5 hown hK1 hP 0 rfl rfl 10 (by decide) f42 rfl rfl dX5_size_7 ?_
  refine lv_iload_n hx hb dX5_size_10 rfl (lv_at hl 1 rfl) ?_
  obtain ⟨h4, x3, hx3, hM⟩ := ldA_some sm_ne hM
  refine gald hx hb hK1 hP 10 9 rfl rfl h4 hx3 dX5_size_11 ?_
  refine lv_iadd hx hb dX5_size_12 ?_
  exact W.iret hx hb hr (fun t ht hW => ⟨⟨_, _, rfl, ⟨pr1 hM, rfl⟩, hPt ht hP⟩, hS.F ht⟩) hS.2.2 dX5_size_13
set_option maxHeartbeats 4000000 in
set_option maxRecDepth 100000 in
theorem kX5_blocksOf (l : Launch) (dC : Nat → ClassId) (dI : Nat → Nat → Nat) (ad : Nat → Nat) (cA : Nat → ClassId) (hap : apart 15 ad) (sz : Nat) (c : HS) (a1 : Int32) (r0 : Int32) (hM : pX5_blocksOf c a1 = some r0) : Met l yX5_blocksOf wsX5_blocksOf ({ frames := 1, cells := 0, slots := 0, locals := 21 }) (gP (dC, dI) (wM ad cA) (kM (dC, dI) cA) c sz [.ref (ad 0), .int a1]) (gQi (dC, dI) (wM ad cA) (fA 15 ad sz) r0 c) 0 0 (fA 15 ad sz) := by
  refine Met.ofW (cc := cX5_blocksOf) (maxL := 2) (ret := (some .int)) (by decide) rfl ?_
  intro p e s m args below meth cd s₁ B hml hv
  obtain ⟨rfl, rfl, hP, hK⟩ := hv
  have hx := B.exec
  have hb := B.bytes
  have hr := B.returns
  have hts := atoms_spec (ws := wsX5_blocksOf) B.pre
  have hown : s.vm.findClass RX5 = some m.cls := findClass_of_methodNamed B.named
  have hlocks := B.notSynchronized
  have hK1 : va_K (dC, dI) vwCl (tM cA) s := hK
  have hD : ∀ c, va_D (fA 15 ad s.heap.size) (wM ad cA c) := fun c => dM_ok hap cA c _
  have hS : va_S (fA 15 ad s.heap.size) s.heap s.heap [] := va_S.rf
  have hl := lv_entry [.ref (ad 0), .int a1] (n := 2) (Nat.le_of_ble_eq_true rfl)
  rw [lg_entry_eq]
  generalize (lg_sl [.ref (ad 0), .int a1] ++ List.replicate (2 - (lg_sl [.ref (ad 0), .int a1]).length) Slot.unset).toArray = ls at hl ⊢
  have hl : lv_has ls 2 [(0, .ref (ad 0)), (1, .int a1)] := hl
  have hP : va_P (dC, dI) vwCl (wM ad cA c) s.heap := hP
  unfold pX5_blocksOf at hM
  refine lv_aload_n hx hb dX5_blocksOf_0 rfl (lv_at hl 0 rfl) ?_
  refine lv_iload_n hx hb dX5_blocksOf_1 rfl (lv_at hl 1 rfl) ?_
  obtain ⟨r2, h1, hM⟩ := bd1_some sm_ne hM
  refine gCi (gV (As := [.int a1]) (rest := []) ⟨hx, hb, hml, hown, hts⟩ (kX5_size l dC dI ad cA hap _ c a1 _ h1) (cwV 1 hts gX5_blocksOf_X5_size rfl rfl rfl (by decide +kernel) ⟨Nat.le_of_ble_eq_true rfl, Nat.le_of_ble_eq_true rfl⟩) (kM_st _ _) hK hP (va_recv hK1 hP (ci := 5) (q0 := 0) rfl rfl) rfl hl.1 rfl (Nat.le_of_ble_eq_true rfl) dX5_blocksOf_2 ⟨Nat.zero_le _, Nat.zero_le _⟩) hS (fun H locs hP hS => ?_)
  refine lv_bipush (v := 64) hx hb dX5_blocksOf_5 (by decide) ?_
  refine lv_iadd hx hb dX5_blocksOf_7 ?_
  refine lv_iconst (v := 1) hx hb dX5_blocksOf_8 (by decide) ?_
  refine lv_isub hx hb dX5_blocksOf_9 ?_
  refine lv_bipush (v := 64) hx hb dX5_blocksOf_10 (by decide) ?_
  refine lv_idiv hx hb dX5_blocksOf_12 (by decide) ?_
  exact W.iret hx hb hr (fun t ht hW => ⟨⟨_, _, rfl, ⟨pr1 hM, rfl⟩, hPt ht hP⟩, hS.F ht⟩) hS.2.2 dX5_blocksOf_13
set_option maxHeartbeats 4000000 in
set_option maxRecDepth 100000 in
theorem kX5_free (l : Launch) (dC : Nat → ClassId) (dI : Nat → Nat → Nat) (ad : Nat → Nat) (cA : Nat → ClassId) (hap : apart 15 ad) (sz : Nat) (c : HS) (a1 : Int32) (c9 : HS) (hM : pX5_free c a1 = some c9) : Met l yX5_free wsX5_free ({ frames := 2, cells := 0, slots := 0, locals := 42 }) (gP (dC, dI) (wM ad cA) (kM (dC, dI) cA) c sz [.ref (ad 0), .int a1]) (gQv (dC, dI) (wM ad cA) (fA 15 ad sz) c9) 0 0 (fA 15 ad sz) := by
  refine Met.ofW (cc := cX5_free) (maxL := 5) (ret := none) (by decide) rfl ?_
  intro p e s m args below meth cd s₁ B hml hv
  obtain ⟨rfl, rfl, hP, hK⟩ := hv
  have hx := B.exec
  have hb := B.bytes
  have hr := B.returns
  have hts := atoms_spec (ws := wsX5_free) B.pre
  have hown : s.vm.findClass RX5 = some m.cls := findClass_of_methodNamed B.named
  have hlocks := B.notSynchronized
  have hK1 : va_K (dC, dI) vwCl (tM cA) s := hK
  have hD : ∀ c, va_D (fA 15 ad s.heap.size) (wM ad cA c) := fun c => dM_ok hap cA c _
  have hS : va_S (fA 15 ad s.heap.size) s.heap s.heap [] := va_S.rf
  have i5 : ∀ w ∈ u_ws RX5 TX5 27, w ∈ wsX5_free := by decide +kernel
  have f13 := hts (.fieldLink RX5 13 "StickyHeapModel" "sorts" "[I") (by decide +kernel)
  have L24 : ∀ (n : Nat) (c : HS) (v2 : Int32) (v3 : Int32) (v4 : Int32) (H : Heap) (locs : List Loc) (ls : Array Slot), pX5_free_24 n c v2 v3 v4 = some c9 → va_P (dC, dI) vwCl (wM ad cA c) H → va_S (fA 15 ad s.heap.size) s.heap H locs → lv_has ls 5 [(0, .ref (ad 0)), (2, .int v2), (3, .int v3), (4, .int v4)] → W p l e (headSpec wsX5_free ({ frames := 2, cells := 0, slots := 0, locals := 42 })).room s m ([.ref (ad 0), .int a1]).toArray below meth cd H locs 0 0 (MQ below (gQv (dC, dI) (wM ad cA) (fA 15 ad s.heap.size) c9) ([.ref (ad 0), .int a1]).toArray s 0 0 (fA 15 ad s.heap.size)) (F0 m 24 ls []) := by
    intro n
    induction n with
    | zero =>
      intro c v2 v3 v4 H locs ls hM
      exact absurd (Eq.symm (hM : none = some c9)) sm_ne
    | succ n24 ih24 =>
      intro c v2 v3 v4 H locs ls hM hP hS hl
      unfold pX5_free_24 at hM
      refine lv_iload hx hb dX5_free_24 (lv_at hl 3 rfl) ?_
      refine lv_iload_n hx hb dX5_free_26 rfl (lv_at hl 1 rfl) ?_
      refine lv_iload_n hx hb dX5_free_27 rfl (lv_at hl 2 rfl) ?_
      refine lv_iadd hx hb dX5_free_28 ?_
      refine lv_icmp_ge (tgt := 46) hx hb dX5_free_29 (by decide) (fun e3 => ?_) (fun e3 => ?_)
      · have hM := it_p e3 hM
        exact W.vret hx hb hr (fun t ht hW => ⟨⟨_, rfl, pr1 hM, hPt ht hP⟩, hS.F ht⟩) hS.2.2 dX5_free_46
      · have hM := it_n e3 hM
        refine lv_aload_n hx hb dX5_free_32 rfl (lv_at hl 0 rfl) ?_
        refine gget (v := .ref (ad 1)) hx hb hts i5 hown hK1 hP 0 rfl rfl 1 (by decide) f13 rfl rfl dX5_free_33 ?_
        refine lv_iload hx hb dX5_free_36 (lv_at hl 3 rfl) ?_
        refine lv_iconst (v := 0) hx hb dX5_free_38 (by decide) ?_
        obtain ⟨h2, c1, hc1, hM⟩ := stA_some sm_ne hM
        refine gast (w := wM ad cA) (c := c) (c1 := c1) hx hb hK1 hP (hD c) hS 1 0 rfl rfl h2 (by rw [hc1]; rfl) dX5_free_39 (fun H locs hP hS => ?_)
        refine lv_iinc (v := v4 + 1) (lv' := [(4, .int (v4 + 1)), (0, .ref (ad 0)), (2, .int v2), (3, .int v3)]) hx hb dX5_free_40 hl (k := 3) rfl rfl (by decide) rfl (fun ls hl => ?_)
        refine lv_goto (tgt := 24) hx hb dX5_free_43 (by decide) ?_
        exact ih24 _ _ _ _ _ _ _ hM hP hS (lv_sub hl [1, 2, 3, 0] rfl)
  have hl := lv_entry [.ref (ad 0), .int a1] (n := 5) (Nat.le_of_ble_eq_true rfl)
  rw [lg_entry_eq]
  generalize (lg_sl [.ref (ad 0), .int a1] ++ List.replicate (5 - (lg_sl [.ref (ad 0), .int a1]).length) Slot.unset).toArray = ls at hl ⊢
  have hl : lv_has ls 5 [(0, .ref (ad 0)), (1, .int a1)] := hl
  have hP : va_P (dC, dI) vwCl (wM ad cA c) s.heap := hP
  unfold pX5_free at hM
  refine lv_iload_n hx hb dX5_free_0 rfl (lv_at hl 1 rfl) ?_
  refine lv_bipush (v := 64) hx hb dX5_free_1 (by decide) ?_
  refine lv_idiv hx hb dX5_free_3 (by decide) ?_
  refine lv_istore_n (lv' := [(2, .int (a1 / 64)), (0, .ref (ad 0)), (1, .int a1)]) hx hb dX5_free_4 rfl hl (by decide) rfl (fun ls hl => ?_)
  refine lv_aload_n hx hb dX5_free_5 rfl (lv_at hl 1 rfl) ?_
  refine gget (v := .ref (ad 1)) hx hb hts i5 hown hK1 hP 0 rfl rfl 1 (by decide) f13 rfl rfl dX5_free_6 ?_
  refine lv_iload_n hx hb dX5_free_9 rfl (lv_at hl 0 rfl) ?_
  obtain ⟨h5, x4, hx4, hM⟩ := ldA_some sm_ne hM
  refine gald hx hb hK1 hP 1 0 rfl rfl h5 hx4 dX5_free_10 ?_
  refine lv_iconst (v := 2) hx hb dX5_free_11 (by decide) ?_
  refine lv_icmp_ne (tgt := 46) hx hb dX5_free_12 (by decide) (fun e8 => ?_) (fun e8 => ?_)
  · have hM := it_n e8 hM
    exact W.vret hx hb hr (fun t ht hW => ⟨⟨_, rfl, pr1 hM, hPt ht hP⟩, hS.F ht⟩) hS.2.2 dX5_free_46
  · have hM := it_p e8 hM
    refine lv_aload_n hx hb dX5_free_15 rfl (lv_at hl 1 rfl) ?_
    refine lv_iload_n hx hb dX5_free_16 rfl (lv_at hl 2 rfl) ?_
    obtain ⟨r7, h6, hM⟩ := bd1_some sm_ne hM
    refine gCi (gV (As := [.int a1]) (rest := []) ⟨hx, hb, hml, hown, hts⟩ (kX5_blocksOf l dC dI ad cA hap _ c a1 _ h6) (cwV 1 hts gX5_free_X5_blocksOf rfl rfl rfl (by decide +kernel) ⟨Nat.le_of_ble_eq_true rfl, Nat.le_of_ble_eq_true rfl⟩) (kM_st _ _) hK hP (va_recv hK1 hP (ci := 5) (q0 := 0) rfl rfl) rfl hl.1 rfl (Nat.le_of_ble_eq_true rfl) dX5_free_17 ⟨Nat.zero_le _, Nat.zero_le _⟩) hS (fun H locs hP hS => ?_)
    refine lv_istore_n (lv' := [(3, .int r7), (2, .int (a1 / 64)), (0, .ref (ad 0)), (1, .int a1)]) hx hb dX5_free_20 rfl hl (by decide) rfl (fun ls hl => ?_)
    refine lv_iload_n hx hb dX5_free_21 rfl (lv_at hl 1 rfl) ?_
    refine lv_istore (lv' := [(4, .int (a1 / 64)), (3, .int r7), (2, .int (a1 / 64)), (0, .ref (ad 0)), (1, .int a1)]) hx hb dX5_free_22 hl (by decide) rfl (fun ls hl => ?_)
    exact L24 _ _ _ _ _ _ _ _ hM hP hS (lv_sub hl [3, 2, 1, 0] rfl)
set_option maxHeartbeats 4000000 in
set_option maxRecDepth 100000 in
theorem kX5_used (l : Launch) (dC : Nat → ClassId) (dI : Nat → Nat → Nat) (ad : Nat → Nat) (cA : Nat → ClassId) (hap : apart 15 ad) (sz : Nat) (c : HS) (a1 : Int32) (r0 : Int32) (hM : pX5_used c a1 = some r0) : Met l yX5_used wsX5_used ({ frames := 0, cells := 0, slots := 0, locals := 0 }) (gP (dC, dI) (wM ad cA) (kM (dC, dI) cA) c sz [.ref (ad 0), .int a1]) (gQi (dC, dI) (wM ad cA) (fA 15 ad sz) r0 c) 0 0 (fA 15 ad sz) := by
  refine Met.ofW (cc := cX5_used) (maxL := 4) (ret := (some .int)) (by decide) rfl ?_
  intro p e s m args below meth cd s₁ B hml hv
  obtain ⟨rfl, rfl, hP, hK⟩ := hv
  have hx := B.exec
  have hb := B.bytes
  have hr := B.returns
  have hts := atoms_spec (ws := wsX5_used) B.pre
  have hown : s.vm.findClass RX5 = some m.cls := findClass_of_methodNamed B.named
  have hlocks := B.notSynchronized
  have hK1 : va_K (dC, dI) vwCl (tM cA) s := hK
  have hD : ∀ c, va_D (fA 15 ad s.heap.size) (wM ad cA c) := fun c => dM_ok hap cA c _
  have hS : va_S (fA 15 ad s.heap.size) s.heap s.heap [] := va_S.rf
  have i5 : ∀ w ∈ u_ws RX5 TX5 27, w ∈ wsX5_used := by decide +kernel
  have f30 := hts (.fieldLink RX5 30 "StickyHeapModel" "begins" "[Z") (by decide +kernel)
  have L7 : ∀ (n : Nat) (v1 : Int32) (v2 : Int32) (v3 : Int32) (H : Heap) (locs : List Loc) (ls : Array Slot), pX5_used_7 c n v1 v2 v3 = some r0 → va_P (dC, dI) vwCl (wM ad cA c) H → va_S (fA 15 ad s.heap.size) s.heap H locs → lv_has ls 4 [(0, .ref (ad 0)), (1, .int v1), (2, .int v2), (3, .int v3)] → W p l e (headSpec wsX5_used ({ frames := 0, cells := 0, slots := 0, locals := 0 })).room s m ([.ref (ad 0), .int a1]).toArray below meth cd H locs 0 0 (MQ below (gQi (dC, dI) (wM ad cA) (fA 15 ad s.heap.size) r0 c) ([.ref (ad 0), .int a1]).toArray s 0 0 (fA 15 ad s.heap.size)) (F0 m 7 ls []) := by
    intro n
    induction n with
    | zero =>
      intro v1 v2 v3 H locs ls hM
      exact absurd (Eq.symm (hM : none = some r0)) sm_ne
    | succ n7 ih7 =>
      intro v1 v2 v3 H locs ls hM hP hS hl
      unfold pX5_used_7 at hM
      refine lv_iload_n hx hb dX5_used_7 rfl (lv_at hl 3 rfl) ?_
      refine lv_bipush (v := 64) hx hb dX5_used_8 (by decide) ?_
      refine lv_iload_n hx hb dX5_used_10 rfl (lv_at hl 1 rfl) ?_
      refine lv_imul hx hb dX5_used_11 ?_
      refine lv_bipush (v := 64) hx hb dX5_used_12 (by decide) ?_
      refine lv_iadd hx hb dX5_used_14 ?_
      refine lv_icmp_ge (tgt := 41) hx hb dX5_used_15 (by decide) (fun e4 => ?_) (fun e4 => ?_)
      · have hM := it_p e4 hM
        refine lv_iload_n hx hb dX5_used_41 rfl (lv_at hl 2 rfl) ?_
        exact W.iret hx hb hr (fun t ht hW => ⟨⟨_, _, rfl, ⟨pr1 hM, rfl⟩, hPt ht hP⟩, hS.F ht⟩) hS.2.2 dX5_used_42
      · have hM := it_n e4 hM
        refine lv_iload_n hx hb dX5_used_18 rfl (lv_at hl 2 rfl) ?_
        refine lv_aload_n hx hb dX5_used_19 rfl (lv_at hl 0 rfl) ?_
        refine gget (v := .ref (ad 6)) hx hb hts i5 hown hK1 hP 0 rfl rfl 6 (by decide) f30 rfl rfl dX5_used_20 ?_
        refine lv_iload_n hx hb dX5_used_23 rfl (lv_at hl 3 rfl) ?_
        obtain ⟨h2, x1, hx1, hM⟩ := ldA_some sm_ne hM
        refine gzld hx hb hK1 hP 6 5 rfl rfl h2 hx1 dX5_used_24 ?_
        refine lv_if_eq (tgt := 32) hx hb dX5_used_25 (by decide) (fun e3 => ?_) (fun e3 => ?_)
        · have hM := it_p e3 hM
          refine lv_iconst (v := 0) hx hb dX5_used_32 (by decide) ?_
          refine lv_iadd hx hb dX5_used_33 ?_
          refine lv_istore_n (lv' := [(2, .int (v2 + 0)), (0, .ref (ad 0)), (1, .int v1), (3, .int v3)]) hx hb dX5_used_34 rfl hl (by decide) rfl (fun ls hl => ?_)
          refine lv_iinc (v := v3 + 1) (lv' := [(3, .int (v3 + 1)), (2, .int (v2 + 0)), (0, .ref (ad 0)), (1, .int v1)]) hx hb dX5_used_35 hl (k := 3) rfl rfl (by decide) rfl (fun ls hl => ?_)
          refine lv_goto (tgt := 7) hx hb dX5_used_38 (by decide) ?_
          exact ih7 _ _ _ _ _ _ hM hP hS (lv_sub hl [2, 3, 1, 0] rfl)
        · have hM := it_n e3 hM
          refine lv_iconst (v := 1) hx hb dX5_used_28 (by decide) ?_
          refine lv_goto (tgt := 33) hx hb dX5_used_29 (by decide) ?_
          refine lv_iadd hx hb dX5_used_33 ?_
          refine lv_istore_n (lv' := [(2, .int (v2 + 1)), (0, .ref (ad 0)), (1, .int v1), (3, .int v3)]) hx hb dX5_used_34 rfl hl (by decide) rfl (fun ls hl => ?_)
          refine lv_iinc (v := v3 + 1) (lv' := [(3, .int (v3 + 1)), (2, .int (v2 + 1)), (0, .ref (ad 0)), (1, .int v1)]) hx hb dX5_used_35 hl (k := 3) rfl rfl (by decide) rfl (fun ls hl => ?_)
          refine lv_goto (tgt := 7) hx hb dX5_used_38 (by decide) ?_
          exact ih7 _ _ _ _ _ _ hM hP hS (lv_sub hl [2, 3, 1, 0] rfl)
  have hl := lv_entry [.ref (ad 0), .int a1] (n := 4) (Nat.le_of_ble_eq_true rfl)
  rw [lg_entry_eq]
  generalize (lg_sl [.ref (ad 0), .int a1] ++ List.replicate (4 - (lg_sl [.ref (ad 0), .int a1]).length) Slot.unset).toArray = ls at hl ⊢
  have hl : lv_has ls 4 [(0, .ref (ad 0)), (1, .int a1)] := hl
  have hP : va_P (dC, dI) vwCl (wM ad cA c) s.heap := hP
  unfold pX5_used at hM
  refine lv_iconst (v := 0) hx hb dX5_used_0 (by decide) ?_
  refine lv_istore_n (lv' := [(2, .int 0), (0, .ref (ad 0)), (1, .int a1)]) hx hb dX5_used_1 rfl hl (by decide) rfl (fun ls hl => ?_)
  refine lv_bipush (v := 64) hx hb dX5_used_2 (by decide) ?_
  refine lv_iload_n hx hb dX5_used_4 rfl (lv_at hl 2 rfl) ?_
  refine lv_imul hx hb dX5_used_5 ?_
  refine lv_istore_n (lv' := [(3, .int (64 * a1)), (2, .int 0), (0, .ref (ad 0)), (1, .int a1)]) hx hb dX5_used_6 rfl hl (by decide) rfl (fun ls hl => ?_)
  exact L7 _ _ _ _ _ _ _ hM hP hS (lv_sub hl [2, 3, 1, 0] rfl)
set_option maxHeartbeats 4000000 in
set_option maxRecDepth 100000 in
theorem kX5_tidy (l : Launch) (dC : Nat → ClassId) (dI : Nat → Nat → Nat) (ad : Nat → Nat) (cA : Nat → ClassId) (hap : apart 15 ad) (sz : Nat) (c : HS) (c9 : HS) (hM : pX5_tidy c = some c9) : Met l yX5_tidy wsX5_tidy ({ frames := 1, cells := 0, slots := 0, locals := 23 }) (gP (dC, dI) (wM ad cA) (kM (dC, dI) cA) c sz [.ref (ad 0)]) (gQv (dC, dI) (wM ad cA) (fA 15 ad sz) c9) 0 0 (fA 15 ad sz) := by
  refine Met.ofW (cc := cX5_tidy) (maxL := 3) (ret := none) (by decide) rfl ?_
  intro p e s m args below meth cd s₁ B hml hv
  obtain ⟨rfl, rfl, hP, hK⟩ := hv
  have hx := B.exec
  have hb := B.bytes
  have hr := B.returns
  have hts := atoms_spec (ws := wsX5_tidy) B.pre
  have hown : s.vm.findClass RX5 = some m.cls := findClass_of_methodNamed B.named
  have hlocks := B.notSynchronized
  have hK1 : va_K (dC, dI) vwCl (tM cA) s := hK
  have hD : ∀ c, va_D (fA 15 ad s.heap.size) (wM ad cA c) := fun c => dM_ok hap cA c _
  have hS : va_S (fA 15 ad s.heap.size) s.heap s.heap [] := va_S.rf
  have i5 : ∀ w ∈ u_ws RX5 TX5 27, w ∈ wsX5_tidy := by decide +kernel
  have f7 := hts (.fieldLink RX5 7 "StickyHeapModel" "blocks" "I") (by decide +kernel)
  have f13 := hts (.fieldLink RX5 13 "StickyHeapModel" "sorts" "[I") (by decide +kernel)
  have f20 := hts (.fieldLink RX5 20 "StickyHeapModel" "dirty" "[Z") (by decide +kernel)
  have f24 := hts (.fieldLink RX5 24 "StickyHeapModel" "barred" "[Z") (by decide +kernel)
  have f48 := hts (.fieldLink RX5 48 "StickyHeapModel" "stack" "[I") (by decide +kernel)
  have f69 := hts (.fieldLink RX5 69 "StickyHeapModel" "deep" "I") (by decide +kernel)
  have f72 := hts (.fieldLink RX5 72 "StickyHeapModel" "logged" "I") (by decide +kernel)
  have f75 := hts (.fieldLink RX5 75 "StickyHeapModel" "isOver" "Z") (by decide +kernel)
  have L12 : ∀ (n : Nat) (c : HS) (v1 : Int32) (H : Heap) (locs : List Loc) (ls : Array Slot), pX5_tidy_12 n c v1 = some c9 → va_P (dC, dI) vwCl (wM ad cA c) H → va_S (fA 15 ad s.heap.size) s.heap H locs → lv_has ls 3 [(0, .ref (ad 0)), (1, .int v1)] → W p l e (headSpec wsX5_tidy ({ frames := 1, cells := 0, slots := 0, locals := 23 })).room s m ([.ref (ad 0)]).toArray below meth cd H locs 0 0 (MQ below (gQv (dC, dI) (wM ad cA) (fA 15 ad s.heap.size) c9) ([.ref (ad 0)]).toArray s 0 0 (fA 15 ad s.heap.size)) (F0 m 12 ls []) := by
    intro n
    induction n with
    | zero =>
      intro c v1 H locs ls hM
      exact absurd (Eq.symm (hM : none = some c9)) sm_ne
    | succ n12 ih12 =>
      have L52 : ∀ (c : HS) (v1 : Int32) (H : Heap) (locs : List Loc) (ls : Array Slot), pX5_tidy_52 (pX5_tidy_12 n12) c v1 = some c9 → va_P (dC, dI) vwCl (wM ad cA c) H → va_S (fA 15 ad s.heap.size) s.heap H locs → lv_has ls 3 [(0, .ref (ad 0)), (1, .int v1)] → W p l e (headSpec wsX5_tidy ({ frames := 1, cells := 0, slots := 0, locals := 23 })).room s m ([.ref (ad 0)]).toArray below meth cd H locs 0 0 (MQ below (gQv (dC, dI) (wM ad cA) (fA 15 ad s.heap.size) c9) ([.ref (ad 0)]).toArray s 0 0 (fA 15 ad s.heap.size)) (F0 m 52 ls []) := by
        have L61 : ∀ (n : Nat) (c : HS) (v1 : Int32) (v2 : Int32) (H : Heap) (locs : List Loc) (ls : Array Slot), pX5_tidy_61 (pX5_tidy_12 n12) n c v1 v2 = some c9 → va_P (dC, dI) vwCl (wM ad cA c) H → va_S (fA 15 ad s.heap.size) s.heap H locs → lv_has ls 3 [(0, .ref (ad 0)), (1, .int v1), (2, .int v2)] → W p l e (headSpec wsX5_tidy ({ frames := 1, cells := 0, slots := 0, locals := 23 })).room s m ([.ref (ad 0)]).toArray below meth cd H locs 0 0 (MQ below (gQv (dC, dI) (wM ad cA) (fA 15 ad s.heap.size) c9) ([.ref (ad 0)]).toArray s 0 0 (fA 15 ad s.heap.size)) (F0 m 61 ls []) := by
          intro n
          induction n with
          | zero =>
            intro c v1 v2 H locs ls hM
            exact absurd (Eq.symm (hM : none = some c9)) sm_ne
          | succ n61 ih61 =>
            intro c v1 v2 H locs ls hM hP hS hl
            unfold pX5_tidy_61 at hM
            refine lv_iload_n hx hb dX5_tidy_61 rfl (lv_at hl 2 rfl) ?_
            refine lv_aload_n hx hb dX5_tidy_62 rfl (lv_at hl 0 rfl) ?_
            refine gget (v := .int (c.1 0 1)) hx hb hts i5 hown hK1 hP 0 rfl rfl 13 (by decide) f69 rfl rfl dX5_tidy_63 ?_
            refine lv_icmp_ge (tgt := 129) hx hb dX5_tidy_66 (by decide) (fun e18 => ?_) (fun e18 => ?_)
            · have hM := it_p e18 hM
              refine lv_iinc (v := v1 + 1) (lv' := [(1, .int (v1 + 1)), (0, .ref (ad 0)), (2, .int v2)]) hx hb dX5_tidy_129 hl (k := 1) rfl rfl (by decide) rfl (fun ls hl => ?_)
              refine lv_goto (tgt := 12) hx hb dX5_tidy_132 (by decide) ?_
              exact ih12 _ _ _ _ _ hM hP hS (lv_sub hl [1, 0] rfl)
            · have hM := it_n e18 hM
              refine lv_aload_n hx hb dX5_tidy_69 rfl (lv_at hl 0 rfl) ?_
              refine gget (v := .ref (ad 4)) hx hb hts i5 hown hK1 hP 0 rfl rfl 4 (by decide) f24 rfl rfl dX5_tidy_70 ?_
              refine lv_iload_n hx hb dX5_tidy_73 rfl (lv_at hl 1 rfl) ?_
              refine lv_aload_n hx hb dX5_tidy_74 rfl (lv_at hl 0 rfl) ?_
              refine gget (v := .ref (ad 4)) hx hb hts i5 hown hK1 hP 0 rfl rfl 4 (by decide) f24 rfl rfl dX5_tidy_75 ?_
              refine lv_iload_n hx hb dX5_tidy_78 rfl (lv_at hl 1 rfl) ?_
              obtain ⟨h2, x1, hx1, hM⟩ := ldA_some sm_ne hM
              refine gzld hx hb hK1 hP 4 3 rfl rfl h2 hx1 dX5_tidy_79 ?_
              refine lv_if_ne (tgt := 117) hx hb dX5_tidy_80 (by decide) (fun e17 => ?_) (fun e17 => ?_)
              · have hM := it_n e17 hM
                refine lv_iconst (v := 1) hx hb dX5_tidy_117 (by decide) ?_
                refine lv_goto (tgt := 122) hx hb dX5_tidy_118 (by decide) ?_
                obtain ⟨h4, h4z, c3, hc3, hM⟩ := stZ_some sm_ne hM
                refine gzst (w := wM ad cA) (c := c) (c1 := c3) hx hb hK1 hP (hD c) hS 4 3 rfl rfl h4 h4z (by rw [hc3]; rfl) dX5_tidy_122 (fun H locs hP hS => ?_)
                refine lv_iinc (v := v2 + 1) (lv' := [(2, .int (v2 + 1)), (0, .ref (ad 0)), (1, .int v1)]) hx hb dX5_tidy_123 hl (k := 2) rfl rfl (by decide) rfl (fun ls hl => ?_)
                refine lv_goto (tgt := 61) hx hb dX5_tidy_126 (by decide) ?_
                exact ih61 _ _ _ _ _ _ hM hP hS (lv_sub hl [1, 2, 0] rfl)
              · have hM := it_p e17 hM
                refine lv_aload_n hx hb dX5_tidy_83 rfl (lv_at hl 0 rfl) ?_
                refine gget (v := .ref (ad 1)) hx hb hts i5 hown hK1 hP 0 rfl rfl 1 (by decide) f13 rfl rfl dX5_tidy_84 ?_
                refine lv_iload_n hx hb dX5_tidy_87 rfl (lv_at hl 1 rfl) ?_
                obtain ⟨h6, x5, hx5, hM⟩ := ldA_some sm_ne hM
                refine gald hx hb hK1 hP 1 0 rfl rfl h6 hx5 dX5_tidy_88 ?_
                refine lv_if_ne (tgt := 121) hx hb dX5_tidy_89 (by decide) (fun e16 => ?_) (fun e16 => ?_)
                · have hM := it_n e16 hM
                  refine lv_iconst (v := 0) hx hb dX5_tidy_121 (by decide) ?_
                  obtain ⟨h8, h8z, c7, hc7, hM⟩ := stZ_some sm_ne hM
                  refine gzst (w := wM ad cA) (c := c) (c1 := c7) hx hb hK1 hP (hD c) hS 4 3 rfl rfl h8 h8z (by rw [hc7]; rfl) dX5_tidy_122 (fun H locs hP hS => ?_)
                  refine lv_iinc (v := v2 + 1) (lv' := [(2, .int (v2 + 1)), (0, .ref (ad 0)), (1, .int v1)]) hx hb dX5_tidy_123 hl (k := 2) rfl rfl (by decide) rfl (fun ls hl => ?_)
                  refine lv_goto (tgt := 61) hx hb dX5_tidy_126 (by decide) ?_
                  exact ih61 _ _ _ _ _ _ hM hP hS (lv_sub hl [1, 2, 0] rfl)
                · have hM := it_p e16 hM
                  refine lv_aload_n hx hb dX5_tidy_92 rfl (lv_at hl 0 rfl) ?_
                  refine gget (v := .ref (ad 12)) hx hb hts i5 hown hK1 hP 0 rfl rfl 12 (by decide) f48 rfl rfl dX5_tidy_93 ?_
                  refine lv_iload_n hx hb dX5_tidy_96 rfl (lv_at hl 2 rfl) ?_
                  obtain ⟨h10, x9, hx9, hM⟩ := ldA_some sm_ne hM
                  refine gald hx hb hK1 hP 12 11 rfl rfl h10 hx9 dX5_tidy_97 ?_
                  refine lv_bipush (v := 64) hx hb dX5_tidy_98 (by decide) ?_
                  refine lv_iload_n hx hb dX5_tidy_100 rfl (lv_at hl 1 rfl) ?_
                  refine lv_imul hx hb dX5_tidy_101 ?_
                  refine lv_bipush (v := 64) hx hb dX5_tidy_102 (by decide) ?_
                  refine lv_iload_n hx hb dX5_tidy_104 rfl (lv_at hl 1 rfl) ?_
                  refine lv_imul hx hb dX5_tidy_105 ?_
                  refine lv_bipush (v := 64) hx hb dX5_tidy_106 (by decide) ?_
                  refine lv_iadd hx hb dX5_tidy_108 ?_
                  refine lv_iconst (v := 1) hx hb dX5_tidy_109 (by decide) ?_
                  refine lv_isub hx hb dX5_tidy_110 ?_
                  refine gCi (gS (As := [.int x9, .int (64 * v1), .int (((64 * v1) + 64) - 1)]) (rest := [.int v1, .ref (ad 4)]) ⟨hx, hb, hml, hown, hts⟩ (kX5_in l dC dI ad cA hap _ c x9 (64 * v1) (((64 * v1) + 64) - 1) _ rfl) (va_cwS 3 hts gX5_tidy_X5_in rfl rfl rfl (by decide +kernel) ⟨Nat.le_of_ble_eq_true rfl, Nat.le_of_ble_eq_true rfl⟩) (kM_st _ _) hK hP rfl hl.1 rfl (Nat.le_of_ble_eq_true rfl) dX5_tidy_111 ⟨Nat.zero_le _, Nat.zero_le _⟩) hS (fun H locs hP hS => ?_)
                  refine lv_if_eq (tgt := 121) hx hb dX5_tidy_114 (by decide) (fun e15 => ?_) (fun e15 => ?_)
                  · have hM := it_p e15 hM
                    refine lv_iconst (v := 0) hx hb dX5_tidy_121 (by decide) ?_
                    obtain ⟨h12, h12z, c11, hc11, hM⟩ := stZ_some sm_ne hM
                    refine gzst (w := wM ad cA) (c := c) (c1 := c11) hx hb hK1 hP (hD c) hS 4 3 rfl rfl h12 h12z (by rw [hc11]; rfl) dX5_tidy_122 (fun H locs hP hS => ?_)
                    refine lv_iinc (v := v2 + 1) (lv' := [(2, .int (v2 + 1)), (0, .ref (ad 0)), (1, .int v1)]) hx hb dX5_tidy_123 hl (k := 2) rfl rfl (by decide) rfl (fun ls hl => ?_)
                    refine lv_goto (tgt := 61) hx hb dX5_tidy_126 (by decide) ?_
                    exact ih61 _ _ _ _ _ _ hM hP hS (lv_sub hl [1, 2, 0] rfl)
                  · have hM := it_n e15 hM
                    refine lv_iconst (v := 1) hx hb dX5_tidy_117 (by decide) ?_
                    refine lv_goto (tgt := 122) hx hb dX5_tidy_118 (by decide) ?_
                    obtain ⟨h14, h14z, c13, hc13, hM⟩ := stZ_some sm_ne hM
                    refine gzst (w := wM ad cA) (c := c) (c1 := c13) hx hb hK1 hP (hD c) hS 4 3 rfl rfl h14 h14z (by rw [hc13]; rfl) dX5_tidy_122 (fun H locs hP hS => ?_)
                    refine lv_iinc (v := v2 + 1) (lv' := [(2, .int (v2 + 1)), (0, .ref (ad 0)), (1, .int v1)]) hx hb dX5_tidy_123 hl (k := 2) rfl rfl (by decide) rfl (fun ls hl => ?_)
                    refine lv_goto (tgt := 61) hx hb dX5_tidy_126 (by decide) ?_
                    exact ih61 _ _ _ _ _ _ hM hP hS (lv_sub hl [1, 2, 0] rfl)
        intro c v1 H locs ls hM hP hS hl
        unfold pX5_tidy_52 at hM
        refine lv_aload_n hx hb dX5_tidy_52 rfl (lv_at hl 0 rfl) ?_
        refine gget (v := .ref (ad 4)) hx hb hts i5 hown hK1 hP 0 rfl rfl 4 (by decide) f24 rfl rfl dX5_tidy_53 ?_
        refine lv_iload_n hx hb dX5_tidy_56 rfl (lv_at hl 1 rfl) ?_
        refine lv_iconst (v := 0) hx hb dX5_tidy_57 (by decide) ?_
        obtain ⟨h20, h20z, c19, hc19, hM⟩ := stZ_some sm_ne hM
        refine gzst (w := wM ad cA) (c := c) (c1 := c19) hx hb hK1 hP (hD c) hS 4 3 rfl rfl h20 h20z (by rw [hc19]; rfl) dX5_tidy_58 (fun H locs hP hS => ?_)
        refine lv_iconst (v := 0) hx hb dX5_tidy_59 (by decide) ?_
        refine lv_istore_n (lv' := [(2, .int 0), (0, .ref (ad 0)), (1, .int v1)]) hx hb dX5_tidy_60 rfl hl (by decide) rfl (fun ls hl => ?_)
        exact L61 _ _ _ _ _ _ _ hM hP hS (lv_sub hl [1, 2, 0] rfl)
      intro c v1 H locs ls hM hP hS hl
      unfold pX5_tidy_12 at hM
      refine lv_iload_n hx hb dX5_tidy_12 rfl (lv_at hl 1 rfl) ?_
      refine lv_aload_n hx hb dX5_tidy_13 rfl (lv_at hl 0 rfl) ?_
      refine gget (v := .int (c.1 0 0)) hx hb hts i5 hown hK1 hP 0 rfl rfl 0 (by decide) f7 rfl rfl dX5_tidy_14 ?_
      refine lv_icmp_ge (tgt := 135) hx hb dX5_tidy_17 (by decide) (fun e31 => ?_) (fun e31 => ?_)
      · have hM := it_p e31 hM
        exact W.vret hx hb hr (fun t ht hW => ⟨⟨_, rfl, pr1 hM, hPt ht hP⟩, hS.F ht⟩) hS.2.2 dX5_tidy_135
      · have hM := it_n e31 hM
        refine lv_aload_n hx hb dX5_tidy_20 rfl (lv_at hl 0 rfl) ?_
        refine gget (v := .ref (ad 3)) hx hb hts i5 hown hK1 hP 0 rfl rfl 3 (by decide) f20 rfl rfl dX5_tidy_21 ?_
        refine lv_iload_n hx hb dX5_tidy_24 rfl (lv_at hl 1 rfl) ?_
        refine lv_iconst (v := 0) hx hb dX5_tidy_25 (by decide) ?_
        obtain ⟨h22, h22z, c21, hc21, hM⟩ := stZ_some sm_ne hM
        refine gzst (w := wM ad cA) (c := c) (c1 := c21) hx hb hK1 hP (hD c) hS 3 2 rfl rfl h22 h22z (by rw [hc21]; rfl) dX5_tidy_26 (fun H locs hP hS => ?_)
        refine lv_aload_n hx hb dX5_tidy_27 rfl (lv_at hl 0 rfl) ?_
        refine gget (v := .ref (ad 1)) hx hb hts i5 hown hK1 hP 0 rfl rfl 1 (by decide) f13 rfl rfl dX5_tidy_28 ?_
        refine lv_iload_n hx hb dX5_tidy_31 rfl (lv_at hl 1 rfl) ?_
        obtain ⟨h24, x23, hx23, hM⟩ := ldA_some sm_ne hM
        refine gald hx hb hK1 hP 1 0 rfl rfl h24 hx23 dX5_tidy_32 ?_
        refine lv_iconst (v := 1) hx hb dX5_tidy_33 (by decide) ?_
        refine lv_icmp_ne (tgt := 52) hx hb dX5_tidy_34 (by decide) (fun e30 => ?_) (fun e30 => ?_)
        · have hM := it_n e30 hM
          exact L52 _ _ _ _ _ hM hP hS (lv_sub hl [0, 1] rfl)
        · have hM := it_p e30 hM
          refine lv_aload_n hx hb dX5_tidy_37 rfl (lv_at hl 0 rfl) ?_
          refine lv_iload_n hx hb dX5_tidy_38 rfl (lv_at hl 1 rfl) ?_
          obtain ⟨r26, h25, hM⟩ := bd1_some sm_ne hM
          refine gCi (gV (As := [.int v1]) (rest := []) ⟨hx, hb, hml, hown, hts⟩ (kX5_used l dC dI ad cA hap _ c21 v1 _ h25) (cwV 1 hts gX5_tidy_X5_used rfl rfl rfl (by decide +kernel) ⟨Nat.le_of_ble_eq_true rfl, Nat.le_of_ble_eq_true rfl⟩) (kM_st _ _) hK hP (va_recv hK1 hP (ci := 5) (q0 := 0) rfl rfl) rfl hl.1 rfl (Nat.le_of_ble_eq_true rfl) dX5_tidy_39 ⟨Nat.zero_le _, Nat.zero_le _⟩) hS (fun H locs hP hS => ?_)
          refine lv_if_ne (tgt := 52) hx hb dX5_tidy_42 (by decide) (fun e29 => ?_) (fun e29 => ?_)
          · have hM := it_n e29 hM
            exact L52 _ _ _ _ _ hM hP hS (lv_sub hl [0, 1] rfl)
          · have hM := it_p e29 hM
            refine lv_aload_n hx hb dX5_tidy_45 rfl (lv_at hl 0 rfl) ?_
            refine gget (v := .ref (ad 1)) hx hb hts i5 hown hK1 hP 0 rfl rfl 1 (by decide) f13 rfl rfl dX5_tidy_46 ?_
            refine lv_iload_n hx hb dX5_tidy_49 rfl (lv_at hl 1 rfl) ?_
            refine lv_iconst (v := 0) hx hb dX5_tidy_50 (by decide) ?_
            obtain ⟨h28, c27, hc27, hM⟩ := stA_some sm_ne hM
            refine gast (w := wM ad cA) (c := c21) (c1 := c27) hx hb hK1 hP (hD c21) hS 1 0 rfl rfl h28 (by rw [hc27]; rfl) dX5_tidy_51 (fun H locs hP hS => ?_)
            exact L52 _ _ _ _ _ hM hP hS (lv_sub hl [0, 1] rfl)
  have hl := lv_entry [.ref (ad 0)] (n := 3) (Nat.le_of_ble_eq_true rfl)
  rw [lg_entry_eq]
  generalize (lg_sl [.ref (ad 0)] ++ List.replicate (3 - (lg_sl [.ref (ad 0)]).length) Slot.unset).toArray = ls at hl ⊢
  have hl : lv_has ls 3 [(0, .ref (ad 0))] := hl
  have hP : va_P (dC, dI) vwCl (wM ad cA c) s.heap := hP
  unfold pX5_tidy at hM
  refine lv_aload_n hx hb dX5_tidy_0 rfl (lv_at hl 0 rfl) ?_
  refine lv_iconst (v := 0) hx hb dX5_tidy_1 (by decide) ?_
  obtain ⟨c32, hc32, hM⟩ := pfA_some hM
  refine gput (w := wM ad cA) (c := c) (c1 := c32) (v := .int 0) hx hb hts i5 tyX5 tyX5_ok nmX5 hown hK1 hP (hD c) hS 0 rfl rfl 15 (by decide) f72 rfl rfl rfl rfl (Nat.le_of_ble_eq_true rfl) (by rw [hc32]; rfl) dX5_tidy_2 (fun H locs hP hS => ?_)
  refine lv_aload_n hx hb dX5_tidy_5 rfl (lv_at hl 0 rfl) ?_
  refine lv_iconst (v := 0) hx hb dX5_tidy_6 (by decide) ?_
  obtain ⟨c33, hc33, hM⟩ := pfA_some hM
  refine gput (w := wM ad cA) (c := c32) (c1 := c33) (v := .int 0) hx hb hts i5 tyX5 tyX5_ok nmX5 hown hK1 hP (hD c32) hS 0 rfl rfl 16 (by decide) f75 rfl rfl rfl rfl (Nat.le_of_ble_eq_true rfl) (by rw [hc33]; rfl) dX5_tidy_7 (fun H locs hP hS => ?_)
  refine lv_iconst (v := 0) hx hb dX5_tidy_10 (by decide) ?_
  refine lv_istore_n (lv' := [(1, .int 0), (0, .ref (ad 0))]) hx hb dX5_tidy_11 rfl hl (by decide) rfl (fun ls hl => ?_)
  exact L12 _ _ _ _ _ _ hM hP hS (lv_sub hl [1, 0] rfl)
set_option maxHeartbeats 4000000 in
set_option maxRecDepth 100000 in
theorem kX5_collect (l : Launch) (dC : Nat → ClassId) (dI : Nat → Nat → Nat) (ad : Nat → Nat) (cA : Nat → ClassId) (hap : apart 15 ad) (sz : Nat) (c : HS) (a1 : Int32) (r0 : Int32) (c9 : HS) (hM : pX5_collect c a1 = some (r0, c9)) : Met l yX5_collect wsX5_collect ({ frames := 3, cells := 0, slots := 0, locals := 66 }) (gP (dC, dI) (wM ad cA) (kM (dC, dI) cA) c sz [.ref (ad 0), .int a1]) (gQi (dC, dI) (wM ad cA) (fA 15 ad sz) r0 c9) 0 0 (fA 15 ad sz) := by
  refine Met.ofW (cc := cX5_collect) (maxL := 6) (ret := (some .int)) (by decide) rfl ?_
  intro p e s m args below meth cd s₁ B hml hv
  obtain ⟨rfl, rfl, hP, hK⟩ := hv
  have hx := B.exec
  have hb := B.bytes
  have hr := B.returns
  have hts := atoms_spec (ws := wsX5_collect) B.pre
  have hown : s.vm.findClass RX5 = some m.cls := findClass_of_methodNamed B.named
  have hlocks := B.notSynchronized
  have hK1 : va_K (dC, dI) vwCl (tM cA) s := hK
  have hD : ∀ c, va_D (fA 15 ad s.heap.size) (wM ad cA c) := fun c => dM_ok hap cA c _
  have hS : va_S (fA 15 ad s.heap.size) s.heap s.heap [] := va_S.rf
  have i5 : ∀ w ∈ u_ws RX5 TX5 27, w ∈ wsX5_collect := by decide +kernel
  have f7 := hts (.fieldLink RX5 7 "StickyHeapModel" "blocks" "I") (by decide +kernel)
  have f30 := hts (.fieldLink RX5 30 "StickyHeapModel" "begins" "[Z") (by decide +kernel)
  have f33 := hts (.fieldLink RX5 33 "StickyHeapModel" "isOld" "[Z") (by decide +kernel)
  have f36 := hts (.fieldLink RX5 36 "StickyHeapModel" "isFound" "[Z") (by decide +kernel)
  have f45 := hts (.fieldLink RX5 45 "StickyHeapModel" "roots" "[I") (by decide +kernel)
  have f48 := hts (.fieldLink RX5 48 "StickyHeapModel" "stack" "[I") (by decide +kernel)
  have f58 := hts (.fieldLink RX5 58 "StickyHeapModel" "isDone" "[Z") (by decide +kernel)
  have f69 := hts (.fieldLink RX5 69 "StickyHeapModel" "deep" "I") (by decide +kernel)
  have L10 : ∀ (n : Nat) (c : HS) (v1 : Int32) (v2 : Int32) (v3 : Int32) (H : Heap) (locs : List Loc) (ls : Array Slot), pX5_collect_10 n c v1 v2 v3 = some (r0, c9) → va_P (dC, dI) vwCl (wM ad cA c) H → va_S (fA 15 ad s.heap.size) s.heap H locs → lv_has ls 6 [(0, .ref (ad 0)), (1, .int v1), (2, .int v2), (3, .int v3)] → W p l e (headSpec wsX5_collect ({ frames := 3, cells := 0, slots := 0, locals := 66 })).room s m ([.ref (ad 0), .int a1]).toArray below meth cd H locs 0 0 (MQ below (gQi (dC, dI) (wM ad cA) (fA 15 ad s.heap.size) r0 c9) ([.ref (ad 0), .int a1]).toArray s 0 0 (fA 15 ad s.heap.size)) (F0 m 10 ls []) := by
    intro n
    induction n with
    | zero =>
      intro c v1 v2 v3 H locs ls hM
      exact absurd (Eq.symm (hM : none = some (r0, c9))) sm_ne
    | succ n10 ih10 =>
      have L61 : ∀ (n : Nat) (c : HS) (v1 : Int32) (v2 : Int32) (v3 : Int32) (H : Heap) (locs : List Loc) (ls : Array Slot), pX5_collect_61 n c v1 v2 v3 = some (r0, c9) → va_P (dC, dI) vwCl (wM ad cA c) H → va_S (fA 15 ad s.heap.size) s.heap H locs → lv_has ls 6 [(0, .ref (ad 0)), (1, .int v1), (2, .int v2), (3, .int v3)] → W p l e (headSpec wsX5_collect ({ frames := 3, cells := 0, slots := 0, locals := 66 })).room s m ([.ref (ad 0), .int a1]).toArray below meth cd H locs 0 0 (MQ below (gQi (dC, dI) (wM ad cA) (fA 15 ad s.heap.size) r0 c9) ([.ref (ad 0), .int a1]).toArray s 0 0 (fA 15 ad s.heap.size)) (F0 m 61 ls []) := by
        intro n
        induction n with
        | zero =>
          intro c v1 v2 v3 H locs ls hM
          exact absurd (Eq.symm (hM : none = some (r0, c9))) sm_ne
        | succ n61 ih61 =>
          have L100 : ∀ (n : Nat) (c : HS) (v2 : Int32) (v3 : Int32) (H : Heap) (locs : List Loc) (ls : Array Slot), pX5_collect_100 n c v2 v3 = some (r0, c9) → va_P (dC, dI) vwCl (wM ad cA c) H → va_S (fA 15 ad s.heap.size) s.heap H locs → lv_has ls 6 [(0, .ref (ad 0)), (2, .int v2), (3, .int v3)] → W p l e (headSpec wsX5_collect ({ frames := 3, cells := 0, slots := 0, locals := 66 })).room s m ([.ref (ad 0), .int a1]).toArray below meth cd H locs 0 0 (MQ below (gQi (dC, dI) (wM ad cA) (fA 15 ad s.heap.size) r0 c9) ([.ref (ad 0), .int a1]).toArray s 0 0 (fA 15 ad s.heap.size)) (F0 m 100 ls []) := by
            intro n
            induction n with
            | zero =>
              intro c v2 v3 H locs ls hM
              exact absurd (Eq.symm (hM : none = some (r0, c9))) sm_ne
            | succ n100 ih100 =>
              have L124 : ∀ (n : Nat) (c : HS) (v2 : Int32) (v3 : Int32) (H : Heap) (locs : List Loc) (ls : Array Slot), pX5_collect_124 n c v2 v3 = some (r0, c9) → va_P (dC, dI) vwCl (wM ad cA c) H → va_S (fA 15 ad s.heap.size) s.heap H locs → lv_has ls 6 [(0, .ref (ad 0)), (2, .int v2), (3, .int v3)] → W p l e (headSpec wsX5_collect ({ frames := 3, cells := 0, slots := 0, locals := 66 })).room s m ([.ref (ad 0), .int a1]).toArray below meth cd H locs 0 0 (MQ below (gQi (dC, dI) (wM ad cA) (fA 15 ad s.heap.size) r0 c9) ([.ref (ad 0), .int a1]).toArray s 0 0 (fA 15 ad s.heap.size)) (F0 m 124 ls []) := by
                intro n
                induction n with
                | zero =>
                  intro c v2 v3 H locs ls hM
                  exact absurd (Eq.symm (hM : none = some (r0, c9))) sm_ne
                | succ n124 ih124 =>
                  have L154 : ∀ (n : Nat) (c : HS) (v2 : Int32) (v3 : Int32) (H : Heap) (locs : List Loc) (ls : Array Slot), pX5_collect_154 n c v2 v3 = some (r0, c9) → va_P (dC, dI) vwCl (wM ad cA c) H → va_S (fA 15 ad s.heap.size) s.heap H locs → lv_has ls 6 [(0, .ref (ad 0)), (2, .int v2), (3, .int v3)] → W p l e (headSpec wsX5_collect ({ frames := 3, cells := 0, slots := 0, locals := 66 })).room s m ([.ref (ad 0), .int a1]).toArray below meth cd H locs 0 0 (MQ below (gQi (dC, dI) (wM ad cA) (fA 15 ad s.heap.size) r0 c9) ([.ref (ad 0), .int a1]).toArray s 0 0 (fA 15 ad s.heap.size)) (F0 m 154 ls []) := by
                    intro n
                    induction n with
                    | zero =>
                      intro c v2 v3 H locs ls hM
                      exact absurd (Eq.symm (hM : none = some (r0, c9))) sm_ne
                    | succ n154 ih154 =>
                      have L220 : ∀ (n : Nat) (c : HS) (v2 : Int32) (v4 : Int32) (v5 : Int32) (H : Heap) (locs : List Loc) (ls : Array Slot), pX5_collect_220 n c v2 v4 v5 = some (r0, c9) → va_P (dC, dI) vwCl (wM ad cA c) H → va_S (fA 15 ad s.heap.size) s.heap H locs → lv_has ls 6 [(0, .ref (ad 0)), (2, .int v2), (4, .int v4), (5, .int v5)] → W p l e (headSpec wsX5_collect ({ frames := 3, cells := 0, slots := 0, locals := 66 })).room s m ([.ref (ad 0), .int a1]).toArray below meth cd H locs 0 0 (MQ below (gQi (dC, dI) (wM ad cA) (fA 15 ad s.heap.size) r0 c9) ([.ref (ad 0), .int a1]).toArray s 0 0 (fA 15 ad s.heap.size)) (F0 m 220 ls []) := by
                        intro n
                        induction n with
                        | zero =>
                          intro c v2 v4 v5 H locs ls hM
                          exact absurd (Eq.symm (hM : none = some (r0, c9))) sm_ne
                        | succ n220 ih220 =>
                          intro c v2 v4 v5 H locs ls hM hP hS hl
                          unfold pX5_collect_220 at hM
                          refine lv_iload hx hb dX5_collect_220 (lv_at hl 3 rfl) ?_
                          refine lv_iload_n hx hb dX5_collect_222 rfl (lv_at hl 1 rfl) ?_
                          refine lv_icmp_ge (tgt := 290) hx hb dX5_collect_223 (by decide) (fun e18 => ?_) (fun e18 => ?_)
                          · have hM := it_p e18 hM
                            refine lv_aload_n hx hb dX5_collect_290 rfl (lv_at hl 0 rfl) ?_
                            obtain ⟨c2, h1, hM⟩ := bd1_some sm_ne hM
                            refine gCv (gV (As := []) (rest := []) ⟨hx, hb, hml, hown, hts⟩ (kX5_tidy l dC dI ad cA hap _ c _ h1) (cwV 0 hts gX5_collect_X5_tidy rfl rfl rfl (by decide +kernel) ⟨Nat.le_of_ble_eq_true rfl, Nat.le_of_ble_eq_true rfl⟩) (kM_st _ _) hK hP (va_recv hK1 hP (ci := 5) (q0 := 0) rfl rfl) rfl hl.1 rfl (Nat.le_of_ble_eq_true rfl) dX5_collect_291 ⟨Nat.zero_le _, Nat.zero_le _⟩) hS (fun H locs hP hS => ?_)
                            refine lv_iload hx hb dX5_collect_294 (lv_at hl 2 rfl) ?_
                            exact W.iret hx hb hr (fun t ht hW => ⟨⟨_, _, rfl, pr2 hM, hPt ht hP⟩, hS.F ht⟩) hS.2.2 dX5_collect_296
                          · have hM := it_n e18 hM
                            refine lv_aload_n hx hb dX5_collect_226 rfl (lv_at hl 0 rfl) ?_
                            refine gget (v := .ref (ad 6)) hx hb hts i5 hown hK1 hP 0 rfl rfl 6 (by decide) f30 rfl rfl dX5_collect_227 ?_
                            refine lv_iload hx hb dX5_collect_230 (lv_at hl 3 rfl) ?_
                            obtain ⟨h4, x3, hx3, hM⟩ := ldA_some sm_ne hM
                            refine gzld hx hb hK1 hP 6 5 rfl rfl h4 hx3 dX5_collect_232 ?_
                            refine lv_if_eq (tgt := 284) hx hb dX5_collect_233 (by decide) (fun e17 => ?_) (fun e17 => ?_)
                            · have hM := it_p e17 hM
                              refine lv_iinc (v := v5 + 1) (lv' := [(5, .int (v5 + 1)), (0, .ref (ad 0)), (2, .int v2), (4, .int v4)]) hx hb dX5_collect_284 hl (k := 3) rfl rfl (by decide) rfl (fun ls hl => ?_)
                              refine lv_goto (tgt := 220) hx hb dX5_collect_287 (by decide) ?_
                              exact ih220 _ _ _ _ _ _ _ hM hP hS (lv_sub hl [1, 2, 3, 0] rfl)
                            · have hM := it_n e17 hM
                              refine lv_aload_n hx hb dX5_collect_236 rfl (lv_at hl 0 rfl) ?_
                              refine gget (v := .ref (ad 7)) hx hb hts i5 hown hK1 hP 0 rfl rfl 7 (by decide) f33 rfl rfl dX5_collect_237 ?_
                              refine lv_iload hx hb dX5_collect_240 (lv_at hl 3 rfl) ?_
                              obtain ⟨h6, x5, hx5, hM⟩ := ldA_some sm_ne hM
                              refine gzld hx hb hK1 hP 7 6 rfl rfl h6 hx5 dX5_collect_242 ?_
                              refine lv_if_ne (tgt := 284) hx hb dX5_collect_243 (by decide) (fun e16 => ?_) (fun e16 => ?_)
                              · have hM := it_n e16 hM
                                refine lv_iinc (v := v5 + 1) (lv' := [(5, .int (v5 + 1)), (0, .ref (ad 0)), (2, .int v2), (4, .int v4)]) hx hb dX5_collect_284 hl (k := 3) rfl rfl (by decide) rfl (fun ls hl => ?_)
                                refine lv_goto (tgt := 220) hx hb dX5_collect_287 (by decide) ?_
                                exact ih220 _ _ _ _ _ _ _ hM hP hS (lv_sub hl [1, 2, 3, 0] rfl)
                              · have hM := it_p e16 hM
                                refine lv_aload_n hx hb dX5_collect_246 rfl (lv_at hl 0 rfl) ?_
                                refine gget (v := .ref (ad 8)) hx hb hts i5 hown hK1 hP 0 rfl rfl 8 (by decide) f36 rfl rfl dX5_collect_247 ?_
                                refine lv_iload hx hb dX5_collect_250 (lv_at hl 3 rfl) ?_
                                obtain ⟨h8, x7, hx7, hM⟩ := ldA_some sm_ne hM
                                refine gzld hx hb hK1 hP 8 7 rfl rfl h8 hx7 dX5_collect_252 ?_
                                refine lv_if_eq (tgt := 267) hx hb dX5_collect_253 (by decide) (fun e15 => ?_) (fun e15 => ?_)
                                · have hM := it_p e15 hM
                                  refine lv_aload_n hx hb dX5_collect_267 rfl (lv_at hl 0 rfl) ?_
                                  refine gget (v := .ref (ad 6)) hx hb hts i5 hown hK1 hP 0 rfl rfl 6 (by decide) f30 rfl rfl dX5_collect_268 ?_
                                  refine lv_iload hx hb dX5_collect_271 (lv_at hl 3 rfl) ?_
                                  refine lv_iconst (v := 0) hx hb dX5_collect_273 (by decide) ?_
                                  obtain ⟨h10, h10z, c9, hc9, hM⟩ := stZ_some sm_ne hM
                                  refine gzst (w := wM ad cA) (c := c) (c1 := c9) hx hb hK1 hP (hD c) hS 6 5 rfl rfl h10 h10z (by rw [hc9]; rfl) dX5_collect_274 (fun H locs hP hS => ?_)
                                  refine lv_iinc (v := v4 + 1) (lv' := [(4, .int (v4 + 1)), (0, .ref (ad 0)), (2, .int v2), (5, .int v5)]) hx hb dX5_collect_275 hl (k := 2) rfl rfl (by decide) rfl (fun ls hl => ?_)
                                  refine lv_aload_n hx hb dX5_collect_278 rfl (lv_at hl 1 rfl) ?_
                                  refine lv_iload hx hb dX5_collect_279 (lv_at hl 3 rfl) ?_
                                  obtain ⟨c12, h11, hM⟩ := bd1_some sm_ne hM
                                  refine gCv (gV (As := [.int v5]) (rest := []) ⟨hx, hb, hml, hown, hts⟩ (kX5_free l dC dI ad cA hap _ c9 v5 _ h11) (cwV 1 hts gX5_collect_X5_free rfl rfl rfl (by decide +kernel) ⟨Nat.le_of_ble_eq_true rfl, Nat.le_of_ble_eq_true rfl⟩) (kM_st _ _) hK hP (va_recv hK1 hP (ci := 5) (q0 := 0) rfl rfl) rfl hl.1 rfl (Nat.le_of_ble_eq_true rfl) dX5_collect_281 ⟨Nat.zero_le _, Nat.zero_le _⟩) hS (fun H locs hP hS => ?_)
                                  refine lv_iinc (v := v5 + 1) (lv' := [(5, .int (v5 + 1)), (4, .int (v4 + 1)), (0, .ref (ad 0)), (2, .int v2)]) hx hb dX5_collect_284 hl (k := 3) rfl rfl (by decide) rfl (fun ls hl => ?_)
                                  refine lv_goto (tgt := 220) hx hb dX5_collect_287 (by decide) ?_
                                  exact ih220 _ _ _ _ _ _ _ hM hP hS (lv_sub hl [2, 3, 1, 0] rfl)
                                · have hM := it_n e15 hM
                                  refine lv_aload_n hx hb dX5_collect_256 rfl (lv_at hl 0 rfl) ?_
                                  refine gget (v := .ref (ad 7)) hx hb hts i5 hown hK1 hP 0 rfl rfl 7 (by decide) f33 rfl rfl dX5_collect_257 ?_
                                  refine lv_iload hx hb dX5_collect_260 (lv_at hl 3 rfl) ?_
                                  refine lv_iconst (v := 1) hx hb dX5_collect_262 (by decide) ?_
                                  obtain ⟨h14, h14z, c13, hc13, hM⟩ := stZ_some sm_ne hM
                                  refine gzst (w := wM ad cA) (c := c) (c1 := c13) hx hb hK1 hP (hD c) hS 7 6 rfl rfl h14 h14z (by rw [hc13]; rfl) dX5_collect_263 (fun H locs hP hS => ?_)
                                  refine lv_goto (tgt := 284) hx hb dX5_collect_264 (by decide) ?_
                                  refine lv_iinc (v := v5 + 1) (lv' := [(5, .int (v5 + 1)), (0, .ref (ad 0)), (2, .int v2), (4, .int v4)]) hx hb dX5_collect_284 hl (k := 3) rfl rfl (by decide) rfl (fun ls hl => ?_)
                                  refine lv_goto (tgt := 220) hx hb dX5_collect_287 (by decide) ?_
                                  exact ih220 _ _ _ _ _ _ _ hM hP hS (lv_sub hl [1, 2, 3, 0] rfl)
                      have L163 : ∀ (n : Nat) (c : HS) (v2 : Int32) (v3 : Int32) (v4 : Int32) (H : Heap) (locs : List Loc) (ls : Array Slot), pX5_collect_163 (pX5_collect_154 n154) n c v2 v3 v4 = some (r0, c9) → va_P (dC, dI) vwCl (wM ad cA c) H → va_S (fA 15 ad s.heap.size) s.heap H locs → lv_has ls 6 [(0, .ref (ad 0)), (2, .int v2), (3, .int v3), (4, .int v4)] → W p l e (headSpec wsX5_collect ({ frames := 3, cells := 0, slots := 0, locals := 66 })).room s m ([.ref (ad 0), .int a1]).toArray below meth cd H locs 0 0 (MQ below (gQi (dC, dI) (wM ad cA) (fA 15 ad s.heap.size) r0 c9) ([.ref (ad 0), .int a1]).toArray s 0 0 (fA 15 ad s.heap.size)) (F0 m 163 ls []) := by
                        intro n
                        induction n with
                        | zero =>
                          intro c v2 v3 v4 H locs ls hM
                          exact absurd (Eq.symm (hM : none = some (r0, c9))) sm_ne
                        | succ n163 ih163 =>
                          intro c v2 v3 v4 H locs ls hM hP hS hl
                          unfold pX5_collect_163 at hM
                          refine lv_iload hx hb dX5_collect_163 (lv_at hl 3 rfl) ?_
                          refine lv_iload_n hx hb dX5_collect_165 rfl (lv_at hl 1 rfl) ?_
                          refine lv_icmp_ge (tgt := 211) hx hb dX5_collect_166 (by decide) (fun e29 => ?_) (fun e29 => ?_)
                          · have hM := it_p e29 hM
                            refine lv_goto (tgt := 154) hx hb dX5_collect_211 (by decide) ?_
                            exact ih154 _ _ _ _ _ _ hM hP hS (lv_sub hl [0, 1, 2] rfl)
                          · have hM := it_n e29 hM
                            refine lv_aload_n hx hb dX5_collect_169 rfl (lv_at hl 0 rfl) ?_
                            refine gget (v := .ref (ad 8)) hx hb hts i5 hown hK1 hP 0 rfl rfl 8 (by decide) f36 rfl rfl dX5_collect_170 ?_
                            refine lv_iload hx hb dX5_collect_173 (lv_at hl 3 rfl) ?_
                            obtain ⟨h20, x19, hx19, hM⟩ := ldA_some sm_ne hM
                            refine gzld hx hb hK1 hP 8 7 rfl rfl h20 hx19 dX5_collect_175 ?_
                            refine lv_if_eq (tgt := 205) hx hb dX5_collect_176 (by decide) (fun e28 => ?_) (fun e28 => ?_)
                            · have hM := it_p e28 hM
                              refine lv_iinc (v := v4 + 1) (lv' := [(4, .int (v4 + 1)), (0, .ref (ad 0)), (2, .int v2), (3, .int v3)]) hx hb dX5_collect_205 hl (k := 3) rfl rfl (by decide) rfl (fun ls hl => ?_)
                              refine lv_goto (tgt := 163) hx hb dX5_collect_208 (by decide) ?_
                              exact ih163 _ _ _ _ _ _ _ hM hP hS (lv_sub hl [1, 2, 3, 0] rfl)
                            · have hM := it_n e28 hM
                              refine lv_aload_n hx hb dX5_collect_179 rfl (lv_at hl 0 rfl) ?_
                              refine gget (v := .ref (ad 14)) hx hb hts i5 hown hK1 hP 0 rfl rfl 25 (by decide) f58 rfl rfl dX5_collect_180 ?_
                              refine lv_iload hx hb dX5_collect_183 (lv_at hl 3 rfl) ?_
                              obtain ⟨h22, x21, hx21, hM⟩ := ldA_some sm_ne hM
                              refine gzld hx hb hK1 hP 14 13 rfl rfl h22 hx21 dX5_collect_185 ?_
                              refine lv_if_ne (tgt := 205) hx hb dX5_collect_186 (by decide) (fun e27 => ?_) (fun e27 => ?_)
                              · have hM := it_n e27 hM
                                refine lv_iinc (v := v4 + 1) (lv' := [(4, .int (v4 + 1)), (0, .ref (ad 0)), (2, .int v2), (3, .int v3)]) hx hb dX5_collect_205 hl (k := 3) rfl rfl (by decide) rfl (fun ls hl => ?_)
                                refine lv_goto (tgt := 163) hx hb dX5_collect_208 (by decide) ?_
                                exact ih163 _ _ _ _ _ _ _ hM hP hS (lv_sub hl [1, 2, 3, 0] rfl)
                              · have hM := it_p e27 hM
                                refine lv_aload_n hx hb dX5_collect_189 rfl (lv_at hl 0 rfl) ?_
                                refine gget (v := .ref (ad 14)) hx hb hts i5 hown hK1 hP 0 rfl rfl 25 (by decide) f58 rfl rfl dX5_collect_190 ?_
                                refine lv_iload hx hb dX5_collect_193 (lv_at hl 3 rfl) ?_
                                refine lv_iconst (v := 1) hx hb dX5_collect_195 (by decide) ?_
                                obtain ⟨h24, h24z, c23, hc23, hM⟩ := stZ_some sm_ne hM
                                refine gzst (w := wM ad cA) (c := c) (c1 := c23) hx hb hK1 hP (hD c) hS 14 13 rfl rfl h24 h24z (by rw [hc23]; rfl) dX5_collect_196 (fun H locs hP hS => ?_)
                                refine lv_iconst (v := 1) hx hb dX5_collect_197 (by decide) ?_
                                refine lv_istore_n (lv' := [(3, .int 1), (0, .ref (ad 0)), (2, .int v2), (4, .int v4)]) hx hb dX5_collect_198 rfl hl (by decide) rfl (fun ls hl => ?_)
                                refine lv_aload_n hx hb dX5_collect_199 rfl (lv_at hl 1 rfl) ?_
                                refine lv_iload hx hb dX5_collect_200 (lv_at hl 3 rfl) ?_
                                obtain ⟨c26, h25, hM⟩ := bd1_some sm_ne hM
                                refine gCv (gV (As := [.int v4]) (rest := []) ⟨hx, hb, hml, hown, hts⟩ (kX5_findAll l dC dI ad cA hap _ c23 v4 _ h25) (cwV 1 hts gX5_collect_X5_findAll rfl rfl rfl (by decide +kernel) ⟨Nat.le_of_ble_eq_true rfl, Nat.le_of_ble_eq_true rfl⟩) (kM_st _ _) hK hP (va_recv hK1 hP (ci := 5) (q0 := 0) rfl rfl) rfl hl.1 rfl (Nat.le_of_ble_eq_true rfl) dX5_collect_202 ⟨Nat.zero_le _, Nat.zero_le _⟩) hS (fun H locs hP hS => ?_)
                                refine lv_iinc (v := v4 + 1) (lv' := [(4, .int (v4 + 1)), (3, .int 1), (0, .ref (ad 0)), (2, .int v2)]) hx hb dX5_collect_205 hl (k := 3) rfl rfl (by decide) rfl (fun ls hl => ?_)
                                refine lv_goto (tgt := 163) hx hb dX5_collect_208 (by decide) ?_
                                exact ih163 _ _ _ _ _ _ _ hM hP hS (lv_sub hl [2, 3, 1, 0] rfl)
                      intro c v2 v3 H locs ls hM hP hS hl
                      unfold pX5_collect_154 at hM
                      refine lv_iload_n hx hb dX5_collect_154 rfl (lv_at hl 2 rfl) ?_
                      refine lv_if_eq (tgt := 214) hx hb dX5_collect_155 (by decide) (fun e30 => ?_) (fun e30 => ?_)
                      · have hM := it_p e30 hM
                        refine lv_iconst (v := 0) hx hb dX5_collect_214 (by decide) ?_
                        refine lv_istore (lv' := [(4, .int 0), (0, .ref (ad 0)), (2, .int v2), (3, .int v3)]) hx hb dX5_collect_215 hl (by decide) rfl (fun ls hl => ?_)
                        refine lv_iconst (v := 0) hx hb dX5_collect_217 (by decide) ?_
                        refine lv_istore (lv' := [(5, .int 0), (4, .int 0), (0, .ref (ad 0)), (2, .int v2), (3, .int v3)]) hx hb dX5_collect_218 hl (by decide) rfl (fun ls hl => ?_)
                        exact L220 _ _ _ _ _ _ _ _ hM hP hS (lv_sub hl [2, 3, 1, 0] rfl)
                      · have hM := it_n e30 hM
                        refine lv_iconst (v := 0) hx hb dX5_collect_158 (by decide) ?_
                        refine lv_istore_n (lv' := [(3, .int 0), (0, .ref (ad 0)), (2, .int v2)]) hx hb dX5_collect_159 rfl hl (by decide) rfl (fun ls hl => ?_)
                        refine lv_iconst (v := 0) hx hb dX5_collect_160 (by decide) ?_
                        refine lv_istore (lv' := [(4, .int 0), (3, .int 0), (0, .ref (ad 0)), (2, .int v2)]) hx hb dX5_collect_161 hl (by decide) rfl (fun ls hl => ?_)
                        exact L163 _ _ _ _ _ _ _ _ hM hP hS (lv_sub hl [2, 3, 1, 0] rfl)
                  intro c v2 v3 H locs ls hM hP hS hl
                  unfold pX5_collect_124 at hM
                  refine lv_iload_n hx hb dX5_collect_124 rfl (lv_at hl 2 rfl) ?_
                  refine lv_aload_n hx hb dX5_collect_125 rfl (lv_at hl 0 rfl) ?_
                  refine gget (v := .int (c.1 0 1)) hx hb hts i5 hown hK1 hP 0 rfl rfl 13 (by decide) f69 rfl rfl dX5_collect_126 ?_
                  refine lv_icmp_ge (tgt := 152) hx hb dX5_collect_129 (by decide) (fun e37 => ?_) (fun e37 => ?_)
                  · have hM := it_p e37 hM
                    refine lv_iconst (v := 1) hx hb dX5_collect_152 (by decide) ?_
                    refine lv_istore_n (lv' := [(3, .int 1), (0, .ref (ad 0)), (2, .int v2)]) hx hb dX5_collect_153 rfl hl (by decide) rfl (fun ls hl => ?_)
                    exact L154 _ _ _ _ _ _ _ hM hP hS (lv_sub hl [1, 2, 0] rfl)
                  · have hM := it_n e37 hM
                    refine lv_aload_n hx hb dX5_collect_132 rfl (lv_at hl 0 rfl) ?_
                    refine lv_aload_n hx hb dX5_collect_133 rfl (lv_at hl 0 rfl) ?_
                    refine lv_aload_n hx hb dX5_collect_134 rfl (lv_at hl 0 rfl) ?_
                    refine gget (v := .ref (ad 12)) hx hb hts i5 hown hK1 hP 0 rfl rfl 12 (by decide) f48 rfl rfl dX5_collect_135 ?_
                    refine lv_iload_n hx hb dX5_collect_138 rfl (lv_at hl 2 rfl) ?_
                    obtain ⟨h32, x31, hx31, hM⟩ := ldA_some sm_ne hM
                    refine gald hx hb hK1 hP 12 11 rfl rfl h32 hx31 dX5_collect_139 ?_
                    obtain ⟨r34, h33, hM⟩ := bd1_some sm_ne hM
                    refine gCi (gV (As := [.int x31]) (rest := [.ref (ad 0)]) ⟨hx, hb, hml, hown, hts⟩ (kX5_points l dC dI ad cA hap _ c x31 _ h33) (cwV 1 hts gX5_collect_X5_points rfl rfl rfl (by decide +kernel) ⟨Nat.le_of_ble_eq_true rfl, Nat.le_of_ble_eq_true rfl⟩) (kM_st _ _) hK hP (va_recv hK1 hP (ci := 5) (q0 := 0) rfl rfl) rfl hl.1 rfl (Nat.le_of_ble_eq_true rfl) dX5_collect_140 ⟨Nat.zero_le _, Nat.zero_le _⟩) hS (fun H locs hP hS => ?_)
                    obtain ⟨c36, h35, hM⟩ := bd1_some sm_ne hM
                    refine gCv (gV (As := [.int r34]) (rest := []) ⟨hx, hb, hml, hown, hts⟩ (kX5_find l dC dI ad cA hap _ c r34 _ h35) (cwV 1 hts gX5_collect_X5_find rfl rfl rfl (by decide +kernel) ⟨Nat.le_of_ble_eq_true rfl, Nat.le_of_ble_eq_true rfl⟩) (kM_st _ _) hK hP (va_recv hK1 hP (ci := 5) (q0 := 0) rfl rfl) rfl hl.1 rfl (Nat.le_of_ble_eq_true rfl) dX5_collect_143 ⟨Nat.zero_le _, Nat.zero_le _⟩) hS (fun H locs hP hS => ?_)
                    refine lv_iinc (v := v3 + 1) (lv' := [(3, .int (v3 + 1)), (0, .ref (ad 0)), (2, .int v2)]) hx hb dX5_collect_146 hl (k := 2) rfl rfl (by decide) rfl (fun ls hl => ?_)
                    refine lv_goto (tgt := 124) hx hb dX5_collect_149 (by decide) ?_
                    exact ih124 _ _ _ _ _ _ hM hP hS (lv_sub hl [1, 2, 0] rfl)
              intro c v2 v3 H locs ls hM hP hS hl
              unfold pX5_collect_100 at hM
              refine lv_iload_n hx hb dX5_collect_100 rfl (lv_at hl 2 rfl) ?_
              refine lv_bipush (v := 10) hx hb dX5_collect_101 (by decide) ?_
              refine lv_icmp_ge (tgt := 122) hx hb dX5_collect_103 (by decide) (fun e42 => ?_) (fun e42 => ?_)
              · have hM := it_p e42 hM
                refine lv_iconst (v := 0) hx hb dX5_collect_122 (by decide) ?_
                refine lv_istore_n (lv' := [(3, .int 0), (0, .ref (ad 0)), (2, .int v2)]) hx hb dX5_collect_123 rfl hl (by decide) rfl (fun ls hl => ?_)
                exact L124 _ _ _ _ _ _ _ hM hP hS (lv_sub hl [1, 2, 0] rfl)
              · have hM := it_n e42 hM
                refine lv_aload_n hx hb dX5_collect_106 rfl (lv_at hl 0 rfl) ?_
                refine lv_aload_n hx hb dX5_collect_107 rfl (lv_at hl 0 rfl) ?_
                refine gget (v := .ref (ad 11)) hx hb hts i5 hown hK1 hP 0 rfl rfl 11 (by decide) f45 rfl rfl dX5_collect_108 ?_
                refine lv_iload_n hx hb dX5_collect_111 rfl (lv_at hl 2 rfl) ?_
                obtain ⟨h39, x38, hx38, hM⟩ := ldA_some sm_ne hM
                refine gald hx hb hK1 hP 11 10 rfl rfl h39 hx38 dX5_collect_112 ?_
                obtain ⟨c41, h40, hM⟩ := bd1_some sm_ne hM
                refine gCv (gV (As := [.int x38]) (rest := []) ⟨hx, hb, hml, hown, hts⟩ (kX5_find l dC dI ad cA hap _ c x38 _ h40) (cwV 1 hts gX5_collect_X5_find rfl rfl rfl (by decide +kernel) ⟨Nat.le_of_ble_eq_true rfl, Nat.le_of_ble_eq_true rfl⟩) (kM_st _ _) hK hP (va_recv hK1 hP (ci := 5) (q0 := 0) rfl rfl) rfl hl.1 rfl (Nat.le_of_ble_eq_true rfl) dX5_collect_113 ⟨Nat.zero_le _, Nat.zero_le _⟩) hS (fun H locs hP hS => ?_)
                refine lv_iinc (v := v3 + 1) (lv' := [(3, .int (v3 + 1)), (0, .ref (ad 0)), (2, .int v2)]) hx hb dX5_collect_116 hl (k := 2) rfl rfl (by decide) rfl (fun ls hl => ?_)
                refine lv_goto (tgt := 100) hx hb dX5_collect_119 (by decide) ?_
                exact ih100 _ _ _ _ _ _ hM hP hS (lv_sub hl [1, 2, 0] rfl)
          intro c v1 v2 v3 H locs ls hM hP hS hl
          unfold pX5_collect_61 at hM
          refine lv_iload_n hx hb dX5_collect_61 rfl (lv_at hl 3 rfl) ?_
          refine lv_iload_n hx hb dX5_collect_62 rfl (lv_at hl 2 rfl) ?_
          refine lv_icmp_ge (tgt := 98) hx hb dX5_collect_63 (by decide) (fun e52 => ?_) (fun e52 => ?_)
          · have hM := it_p e52 hM
            refine lv_iconst (v := 0) hx hb dX5_collect_98 (by decide) ?_
            refine lv_istore_n (lv' := [(3, .int 0), (0, .ref (ad 0)), (1, .int v1), (2, .int v2)]) hx hb dX5_collect_99 rfl hl (by decide) rfl (fun ls hl => ?_)
            exact L100 _ _ _ _ _ _ _ hM hP hS (lv_sub hl [1, 3, 0] rfl)
          · have hM := it_n e52 hM
            refine lv_iload_n hx hb dX5_collect_66 rfl (lv_at hl 1 rfl) ?_
            refine lv_if_ne (tgt := 98) hx hb dX5_collect_67 (by decide) (fun e51 => ?_) (fun e51 => ?_)
            · have hM := it_n e51 hM
              refine lv_iconst (v := 0) hx hb dX5_collect_98 (by decide) ?_
              refine lv_istore_n (lv' := [(3, .int 0), (0, .ref (ad 0)), (1, .int v1), (2, .int v2)]) hx hb dX5_collect_99 rfl hl (by decide) rfl (fun ls hl => ?_)
              exact L100 _ _ _ _ _ _ _ hM hP hS (lv_sub hl [1, 3, 0] rfl)
            · have hM := it_p e51 hM
              refine lv_aload_n hx hb dX5_collect_70 rfl (lv_at hl 0 rfl) ?_
              refine gget (v := .ref (ad 6)) hx hb hts i5 hown hK1 hP 0 rfl rfl 6 (by decide) f30 rfl rfl dX5_collect_71 ?_
              refine lv_iload_n hx hb dX5_collect_74 rfl (lv_at hl 3 rfl) ?_
              obtain ⟨h44, x43, hx43, hM⟩ := ldA_some sm_ne hM
              refine gzld hx hb hK1 hP 6 5 rfl rfl h44 hx43 dX5_collect_75 ?_
              refine lv_if_eq (tgt := 92) hx hb dX5_collect_76 (by decide) (fun e50 => ?_) (fun e50 => ?_)
              · have hM := it_p e50 hM
                refine lv_iinc (v := v3 + 1) (lv' := [(3, .int (v3 + 1)), (0, .ref (ad 0)), (1, .int v1), (2, .int v2)]) hx hb dX5_collect_92 hl (k := 3) rfl rfl (by decide) rfl (fun ls hl => ?_)
                refine lv_goto (tgt := 61) hx hb dX5_collect_95 (by decide) ?_
                exact ih61 _ _ _ _ _ _ _ hM hP hS (lv_sub hl [1, 2, 3, 0] rfl)
              · have hM := it_n e50 hM
                refine lv_aload_n hx hb dX5_collect_79 rfl (lv_at hl 0 rfl) ?_
                refine lv_iload_n hx hb dX5_collect_80 rfl (lv_at hl 3 rfl) ?_
                obtain ⟨r46, h45, hM⟩ := bd1_some sm_ne hM
                refine gCi (gV (As := [.int v3]) (rest := []) ⟨hx, hb, hml, hown, hts⟩ (kX5_isRemembered l dC dI ad cA hap _ c v3 _ h45) (cwV 1 hts gX5_collect_X5_isRemembered rfl rfl rfl (by decide +kernel) ⟨Nat.le_of_ble_eq_true rfl, Nat.le_of_ble_eq_true rfl⟩) (kM_st _ _) hK hP (va_recv hK1 hP (ci := 5) (q0 := 0) rfl rfl) rfl hl.1 rfl (Nat.le_of_ble_eq_true rfl) dX5_collect_81 ⟨Nat.zero_le _, Nat.zero_le _⟩) hS (fun H locs hP hS => ?_)
                refine lv_if_eq (tgt := 92) hx hb dX5_collect_84 (by decide) (fun e49 => ?_) (fun e49 => ?_)
                · have hM := it_p e49 hM
                  refine lv_iinc (v := v3 + 1) (lv' := [(3, .int (v3 + 1)), (0, .ref (ad 0)), (1, .int v1), (2, .int v2)]) hx hb dX5_collect_92 hl (k := 3) rfl rfl (by decide) rfl (fun ls hl => ?_)
                  refine lv_goto (tgt := 61) hx hb dX5_collect_95 (by decide) ?_
                  exact ih61 _ _ _ _ _ _ _ hM hP hS (lv_sub hl [1, 2, 3, 0] rfl)
                · have hM := it_n e49 hM
                  refine lv_aload_n hx hb dX5_collect_87 rfl (lv_at hl 0 rfl) ?_
                  refine lv_iload_n hx hb dX5_collect_88 rfl (lv_at hl 3 rfl) ?_
                  obtain ⟨c48, h47, hM⟩ := bd1_some sm_ne hM
                  refine gCv (gV (As := [.int v3]) (rest := []) ⟨hx, hb, hml, hown, hts⟩ (kX5_findAll l dC dI ad cA hap _ c v3 _ h47) (cwV 1 hts gX5_collect_X5_findAll rfl rfl rfl (by decide +kernel) ⟨Nat.le_of_ble_eq_true rfl, Nat.le_of_ble_eq_true rfl⟩) (kM_st _ _) hK hP (va_recv hK1 hP (ci := 5) (q0 := 0) rfl rfl) rfl hl.1 rfl (Nat.le_of_ble_eq_true rfl) dX5_collect_89 ⟨Nat.zero_le _, Nat.zero_le _⟩) hS (fun H locs hP hS => ?_)
                  refine lv_iinc (v := v3 + 1) (lv' := [(3, .int (v3 + 1)), (0, .ref (ad 0)), (1, .int v1), (2, .int v2)]) hx hb dX5_collect_92 hl (k := 3) rfl rfl (by decide) rfl (fun ls hl => ?_)
                  refine lv_goto (tgt := 61) hx hb dX5_collect_95 (by decide) ?_
                  exact ih61 _ _ _ _ _ _ _ hM hP hS (lv_sub hl [1, 2, 3, 0] rfl)
      intro c v1 v2 v3 H locs ls hM hP hS hl
      unfold pX5_collect_10 at hM
      refine lv_iload_n hx hb dX5_collect_10 rfl (lv_at hl 3 rfl) ?_
      refine lv_iload_n hx hb dX5_collect_11 rfl (lv_at hl 2 rfl) ?_
      refine lv_icmp_ge (tgt := 59) hx hb dX5_collect_12 (by decide) (fun e67 => ?_) (fun e67 => ?_)
      · have hM := it_p e67 hM
        refine lv_iconst (v := 0) hx hb dX5_collect_59 (by decide) ?_
        refine lv_istore_n (lv' := [(3, .int 0), (0, .ref (ad 0)), (1, .int v1), (2, .int v2)]) hx hb dX5_collect_60 rfl hl (by decide) rfl (fun ls hl => ?_)
        exact L61 _ _ _ _ _ _ _ _ hM hP hS (lv_sub hl [1, 2, 3, 0] rfl)
      · have hM := it_n e67 hM
        refine lv_aload_n hx hb dX5_collect_15 rfl (lv_at hl 0 rfl) ?_
        refine gget (v := .ref (ad 8)) hx hb hts i5 hown hK1 hP 0 rfl rfl 8 (by decide) f36 rfl rfl dX5_collect_16 ?_
        refine lv_iload_n hx hb dX5_collect_19 rfl (lv_at hl 3 rfl) ?_
        refine lv_iconst (v := 0) hx hb dX5_collect_20 (by decide) ?_
        obtain ⟨h54, h54z, c53, hc53, hM⟩ := stZ_some sm_ne hM
        refine gzst (w := wM ad cA) (c := c) (c1 := c53) hx hb hK1 hP (hD c) hS 8 7 rfl rfl h54 h54z (by rw [hc53]; rfl) dX5_collect_21 (fun H locs hP hS => ?_)
        refine lv_aload_n hx hb dX5_collect_22 rfl (lv_at hl 0 rfl) ?_
        refine gget (v := .ref (ad 14)) hx hb hts i5 hown hK1 hP 0 rfl rfl 25 (by decide) f58 rfl rfl dX5_collect_23 ?_
        refine lv_iload_n hx hb dX5_collect_26 rfl (lv_at hl 3 rfl) ?_
        refine lv_iconst (v := 0) hx hb dX5_collect_27 (by decide) ?_
        obtain ⟨h56, h56z, c55, hc55, hM⟩ := stZ_some sm_ne hM
        refine gzst (w := wM ad cA) (c := c53) (c1 := c55) hx hb hK1 hP (hD c53) hS 14 13 rfl rfl h56 h56z (by rw [hc55]; rfl) dX5_collect_28 (fun H locs hP hS => ?_)
        refine lv_aload_n hx hb dX5_collect_29 rfl (lv_at hl 0 rfl) ?_
        refine gget (v := .ref (ad 7)) hx hb hts i5 hown hK1 hP 0 rfl rfl 7 (by decide) f33 rfl rfl dX5_collect_30 ?_
        refine lv_iload_n hx hb dX5_collect_33 rfl (lv_at hl 3 rfl) ?_
        refine lv_aload_n hx hb dX5_collect_34 rfl (lv_at hl 0 rfl) ?_
        refine gget (v := .ref (ad 7)) hx hb hts i5 hown hK1 hP 0 rfl rfl 7 (by decide) f33 rfl rfl dX5_collect_35 ?_
        refine lv_iload_n hx hb dX5_collect_38 rfl (lv_at hl 3 rfl) ?_
        obtain ⟨h58, x57, hx57, hM⟩ := ldA_some sm_ne hM
        refine gzld hx hb hK1 hP 7 6 rfl rfl h58 hx57 dX5_collect_39 ?_
        refine lv_if_eq (tgt := 51) hx hb dX5_collect_40 (by decide) (fun e66 => ?_) (fun e66 => ?_)
        · have hM := it_p e66 hM
          refine lv_iconst (v := 0) hx hb dX5_collect_51 (by decide) ?_
          obtain ⟨h60, h60z, c59, hc59, hM⟩ := stZ_some sm_ne hM
          refine gzst (w := wM ad cA) (c := c55) (c1 := c59) hx hb hK1 hP (hD c55) hS 7 6 rfl rfl h60 h60z (by rw [hc59]; rfl) dX5_collect_52 (fun H locs hP hS => ?_)
          refine lv_iinc (v := v3 + 1) (lv' := [(3, .int (v3 + 1)), (0, .ref (ad 0)), (1, .int v1), (2, .int v2)]) hx hb dX5_collect_53 hl (k := 3) rfl rfl (by decide) rfl (fun ls hl => ?_)
          refine lv_goto (tgt := 10) hx hb dX5_collect_56 (by decide) ?_
          exact ih10 _ _ _ _ _ _ _ hM hP hS (lv_sub hl [1, 2, 3, 0] rfl)
        · have hM := it_n e66 hM
          refine lv_iload_n hx hb dX5_collect_43 rfl (lv_at hl 1 rfl) ?_
          refine lv_if_ne (tgt := 51) hx hb dX5_collect_44 (by decide) (fun e65 => ?_) (fun e65 => ?_)
          · have hM := it_n e65 hM
            refine lv_iconst (v := 0) hx hb dX5_collect_51 (by decide) ?_
            obtain ⟨h62, h62z, c61, hc61, hM⟩ := stZ_some sm_ne hM
            refine gzst (w := wM ad cA) (c := c55) (c1 := c61) hx hb hK1 hP (hD c55) hS 7 6 rfl rfl h62 h62z (by rw [hc61]; rfl) dX5_collect_52 (fun H locs hP hS => ?_)
            refine lv_iinc (v := v3 + 1) (lv' := [(3, .int (v3 + 1)), (0, .ref (ad 0)), (1, .int v1), (2, .int v2)]) hx hb dX5_collect_53 hl (k := 3) rfl rfl (by decide) rfl (fun ls hl => ?_)
            refine lv_goto (tgt := 10) hx hb dX5_collect_56 (by decide) ?_
            exact ih10 _ _ _ _ _ _ _ hM hP hS (lv_sub hl [1, 2, 3, 0] rfl)
          · have hM := it_p e65 hM
            refine lv_iconst (v := 1) hx hb dX5_collect_47 (by decide) ?_
            refine lv_goto (tgt := 52) hx hb dX5_collect_48 (by decide) ?_
            obtain ⟨h64, h64z, c63, hc63, hM⟩ := stZ_some sm_ne hM
            refine gzst (w := wM ad cA) (c := c55) (c1 := c63) hx hb hK1 hP (hD c55) hS 7 6 rfl rfl h64 h64z (by rw [hc63]; rfl) dX5_collect_52 (fun H locs hP hS => ?_)
            refine lv_iinc (v := v3 + 1) (lv' := [(3, .int (v3 + 1)), (0, .ref (ad 0)), (1, .int v1), (2, .int v2)]) hx hb dX5_collect_53 hl (k := 3) rfl rfl (by decide) rfl (fun ls hl => ?_)
            refine lv_goto (tgt := 10) hx hb dX5_collect_56 (by decide) ?_
            exact ih10 _ _ _ _ _ _ _ hM hP hS (lv_sub hl [1, 2, 3, 0] rfl)
  have hl := lv_entry [.ref (ad 0), .int a1] (n := 6) (Nat.le_of_ble_eq_true rfl)
  rw [lg_entry_eq]
  generalize (lg_sl [.ref (ad 0), .int a1] ++ List.replicate (6 - (lg_sl [.ref (ad 0), .int a1]).length) Slot.unset).toArray = ls at hl ⊢
  have hl : lv_has ls 6 [(0, .ref (ad 0)), (1, .int a1)] := hl
  have hP : va_P (dC, dI) vwCl (wM ad cA c) s.heap := hP
  unfold pX5_collect at hM
  refine lv_bipush (v := 64) hx hb dX5_collect_0 (by decide) ?_
  refine lv_aload_n hx hb dX5_collect_2 rfl (lv_at hl 0 rfl) ?_
  refine gget (v := .int (c.1 0 0)) hx hb hts i5 hown hK1 hP 0 rfl rfl 0 (by decide) f7 rfl rfl dX5_collect_3 ?_
  refine lv_imul hx hb dX5_collect_6 ?_
  refine lv_istore_n (lv' := [(2, .int (64 * (c.1 0 0))), (0, .ref (ad 0)), (1, .int a1)]) hx hb dX5_collect_7 rfl hl (by decide) rfl (fun ls hl => ?_)
  refine lv_iconst (v := 0) hx hb dX5_collect_8 (by decide) ?_
  refine lv_istore_n (lv' := [(3, .int 0), (2, .int (64 * (c.1 0 0))), (0, .ref (ad 0)), (1, .int a1)]) hx hb dX5_collect_9 rfl hl (by decide) rfl (fun ls hl => ?_)
  exact L10 _ _ _ _ _ _ _ _ hM hP hS (lv_sub hl [2, 3, 1, 0] rfl)
set_option maxHeartbeats 4000000 in
set_option maxRecDepth 100000 in
theorem kX5_make (l : Launch) (dC : Nat → ClassId) (dI : Nat → Nat → Nat) (ad : Nat → Nat) (cA : Nat → ClassId) (hap : apart 15 ad) (sz : Nat) (c : HS) (a1 : Int32) (a2 : Int32) (r0 : Int32) (c9 : HS) (hM : pX5_make c a1 a2 = some (r0, c9)) : Met l yX5_make wsX5_make ({ frames := 4, cells := 0, slots := 0, locals := 91 }) (gP (dC, dI) (wM ad cA) (kM (dC, dI) cA) c sz [.ref (ad 0), .int a1, .int a2]) (gQi (dC, dI) (wM ad cA) (fA 15 ad sz) r0 c9) 0 0 (fA 15 ad sz) := by
  refine Met.ofW (cc := cX5_make) (maxL := 5) (ret := (some .int)) (by decide) rfl ?_
  intro p e s m args below meth cd s₁ B hml hv
  obtain ⟨rfl, rfl, hP, hK⟩ := hv
  have hx := B.exec
  have hb := B.bytes
  have hr := B.returns
  have hts := atoms_spec (ws := wsX5_make) B.pre
  have hown : s.vm.findClass RX5 = some m.cls := findClass_of_methodNamed B.named
  have hlocks := B.notSynchronized
  have hK1 : va_K (dC, dI) vwCl (tM cA) s := hK
  have hD : ∀ c, va_D (fA 15 ad s.heap.size) (wM ad cA c) := fun c => dM_ok hap cA c _
  have hS : va_S (fA 15 ad s.heap.size) s.heap s.heap [] := va_S.rf
  have i5 : ∀ w ∈ u_ws RX5 TX5 27, w ∈ wsX5_make := by decide +kernel
  have f27 := hts (.fieldLink RX5 27 "StickyHeapModel" "words" "[I") (by decide +kernel)
  have f30 := hts (.fieldLink RX5 30 "StickyHeapModel" "begins" "[Z") (by decide +kernel)
  have f33 := hts (.fieldLink RX5 33 "StickyHeapModel" "isOld" "[Z") (by decide +kernel)
  have f39 := hts (.fieldLink RX5 39 "StickyHeapModel" "references" "[I") (by decide +kernel)
  have f42 := hts (.fieldLink RX5 42 "StickyHeapModel" "numbers" "[I") (by decide +kernel)
  have f54 := hts (.fieldLink RX5 54 "StickyHeapModel" "isAuto" "Z") (by decide +kernel)
  have f108 := hts (.fieldLink RX5 108 "StickyHeapModel" "gone" "I") (by decide +kernel)
  have f115 := hts (.fieldLink RX5 115 "StickyHeapModel" "minors" "I") (by decide +kernel)
  have f118 := hts (.fieldLink RX5 118 "StickyHeapModel" "fulls" "I") (by decide +kernel)
  have f121 := hts (.fieldLink RX5 121 "StickyHeapModel" "made" "I") (by decide +kernel)
  have L92 : ∀ (c : HS) (v1 : Int32) (v2 : Int32) (v3 : Int32) (H : Heap) (locs : List Loc) (ls : Array Slot), pX5_make_92 c v1 v2 v3 = some (r0, c9) → va_P (dC, dI) vwCl (wM ad cA c) H → va_S (fA 15 ad s.heap.size) s.heap H locs → lv_has ls 5 [(0, .ref (ad 0)), (1, .int v1), (2, .int v2), (3, .int v3)] → W p l e (headSpec wsX5_make ({ frames := 4, cells := 0, slots := 0, locals := 91 })).room s m ([.ref (ad 0), .int a1, .int a2]).toArray below meth cd H locs 0 0 (MQ below (gQi (dC, dI) (wM ad cA) (fA 15 ad s.heap.size) r0 c9) ([.ref (ad 0), .int a1, .int a2]).toArray s 0 0 (fA 15 ad s.heap.size)) (F0 m 92 ls []) := by
    have L137 : ∀ (c : HS) (v1 : Int32) (v2 : Int32) (v3 : Int32) (H : Heap) (locs : List Loc) (ls : Array Slot), pX5_make_137 c v1 v2 v3 = some (r0, c9) → va_P (dC, dI) vwCl (wM ad cA c) H → va_S (fA 15 ad s.heap.size) s.heap H locs → lv_has ls 5 [(0, .ref (ad 0)), (1, .int v1), (2, .int v2), (3, .int v3)] → W p l e (headSpec wsX5_make ({ frames := 4, cells := 0, slots := 0, locals := 91 })).room s m ([.ref (ad 0), .int a1, .int a2]).toArray below meth cd H locs 0 0 (MQ below (gQi (dC, dI) (wM ad cA) (fA 15 ad s.heap.size) r0 c9) ([.ref (ad 0), .int a1, .int a2]).toArray s 0 0 (fA 15 ad s.heap.size)) (F0 m 137 ls []) := by
      have L151 : ∀ (c : HS) (v1 : Int32) (v2 : Int32) (v3 : Int32) (H : Heap) (locs : List Loc) (ls : Array Slot), pX5_make_151 c v1 v2 v3 = some (r0, c9) → va_P (dC, dI) vwCl (wM ad cA c) H → va_S (fA 15 ad s.heap.size) s.heap H locs → lv_has ls 5 [(0, .ref (ad 0)), (1, .int v1), (2, .int v2), (3, .int v3)] → W p l e (headSpec wsX5_make ({ frames := 4, cells := 0, slots := 0, locals := 91 })).room s m ([.ref (ad 0), .int a1, .int a2]).toArray below meth cd H locs 0 0 (MQ below (gQi (dC, dI) (wM ad cA) (fA 15 ad s.heap.size) r0 c9) ([.ref (ad 0), .int a1, .int a2]).toArray s 0 0 (fA 15 ad s.heap.size)) (F0 m 151 ls []) := by
        have L190 : ∀ (n : Nat) (c : HS) (v1 : Int32) (v2 : Int32) (v3 : Int32) (v4 : Int32) (H : Heap) (locs : List Loc) (ls : Array Slot), pX5_make_190 n c v1 v2 v3 v4 = some (r0, c9) → va_P (dC, dI) vwCl (wM ad cA c) H → va_S (fA 15 ad s.heap.size) s.heap H locs → lv_has ls 5 [(0, .ref (ad 0)), (1, .int v1), (2, .int v2), (3, .int v3), (4, .int v4)] → W p l e (headSpec wsX5_make ({ frames := 4, cells := 0, slots := 0, locals := 91 })).room s m ([.ref (ad 0), .int a1, .int a2]).toArray below meth cd H locs 0 0 (MQ below (gQi (dC, dI) (wM ad cA) (fA 15 ad s.heap.size) r0 c9) ([.ref (ad 0), .int a1, .int a2]).toArray s 0 0 (fA 15 ad s.heap.size)) (F0 m 190 ls []) := by
          intro n
          induction n with
          | zero =>
            intro c v1 v2 v3 v4 H locs ls hM
            exact absurd (Eq.symm (hM : none = some (r0, c9))) sm_ne
          | succ n190 ih190 =>
            intro c v1 v2 v3 v4 H locs ls hM hP hS hl
            unfold pX5_make_190 at hM
            refine lv_iload hx hb dX5_make_190 (lv_at hl 4 rfl) ?_
            refine lv_iload_n hx hb dX5_make_192 rfl (lv_at hl 1 rfl) ?_
            refine lv_iload_n hx hb dX5_make_193 rfl (lv_at hl 2 rfl) ?_
            refine lv_iadd hx hb dX5_make_194 ?_
            refine lv_icmp_ge (tgt := 224) hx hb dX5_make_195 (by decide) (fun e7 => ?_) (fun e7 => ?_)
            · have hM := it_p e7 hM
              refine lv_aload_n hx hb dX5_make_224 rfl (lv_at hl 0 rfl) ?_
              refine lv_dup hx hb dX5_make_225 rfl ?_
              refine gget (v := .int (c.1 0 7)) hx hb hts i5 hown hK1 hP 0 rfl rfl 20 (by decide) f121 rfl rfl dX5_make_226 ?_
              refine lv_iconst (v := 1) hx hb dX5_make_229 (by decide) ?_
              refine lv_iadd hx hb dX5_make_230 ?_
              obtain ⟨c1, hc1, hM⟩ := pfA_some hM
              refine gput (w := wM ad cA) (c := c) (c1 := c1) (v := .int ((c.1 0 7) + 1)) hx hb hts i5 tyX5 tyX5_ok nmX5 hown hK1 hP (hD c) hS 0 rfl rfl 20 (by decide) f121 rfl rfl rfl rfl (Nat.le_of_ble_eq_true rfl) (by rw [hc1]; rfl) dX5_make_231 (fun H locs hP hS => ?_)
              refine lv_iload_n hx hb dX5_make_234 rfl (lv_at hl 3 rfl) ?_
              exact W.iret hx hb hr (fun t ht hW => ⟨⟨_, _, rfl, pr2 hM, hPt ht hP⟩, hS.F ht⟩) hS.2.2 dX5_make_235
            · have hM := it_n e7 hM
              refine lv_aload_n hx hb dX5_make_198 rfl (lv_at hl 0 rfl) ?_
              refine gget (v := .ref (ad 5)) hx hb hts i5 hown hK1 hP 0 rfl rfl 5 (by decide) f27 rfl rfl dX5_make_199 ?_
              refine lv_iload_n hx hb dX5_make_202 rfl (lv_at hl 3 rfl) ?_
              refine lv_iload hx hb dX5_make_203 (lv_at hl 4 rfl) ?_
              refine lv_iadd hx hb dX5_make_205 ?_
              refine lv_iload hx hb dX5_make_206 (lv_at hl 4 rfl) ?_
              refine lv_iload_n hx hb dX5_make_208 rfl (lv_at hl 1 rfl) ?_
              refine lv_icmp_ge (tgt := 216) hx hb dX5_make_209 (by decide) (fun e6 => ?_) (fun e6 => ?_)
              · have hM := it_p e6 hM
                refine lv_iconst (v := 0) hx hb dX5_make_216 (by decide) ?_
                obtain ⟨h3, c2, hc2, hM⟩ := stA_some sm_ne hM
                refine gast (w := wM ad cA) (c := c) (c1 := c2) hx hb hK1 hP (hD c) hS 5 4 rfl rfl h3 (by rw [hc2]; rfl) dX5_make_217 (fun H locs hP hS => ?_)
                refine lv_iinc (v := v4 + 1) (lv' := [(4, .int (v4 + 1)), (0, .ref (ad 0)), (1, .int v1), (2, .int v2), (3, .int v3)]) hx hb dX5_make_218 hl (k := 4) rfl rfl (by decide) rfl (fun ls hl => ?_)
                refine lv_goto (tgt := 190) hx hb dX5_make_221 (by decide) ?_
                exact ih190 _ _ _ _ _ _ _ _ hM hP hS (lv_sub hl [1, 2, 3, 4, 0] rfl)
              · have hM := it_n e6 hM
                refine lv_iconst (v := (-1)) hx hb dX5_make_212 (by decide) ?_
                refine lv_goto (tgt := 217) hx hb dX5_make_213 (by decide) ?_
                obtain ⟨h5, c4, hc4, hM⟩ := stA_some sm_ne hM
                refine gast (w := wM ad cA) (c := c) (c1 := c4) hx hb hK1 hP (hD c) hS 5 4 rfl rfl h5 (by rw [hc4]; rfl) dX5_make_217 (fun H locs hP hS => ?_)
                refine lv_iinc (v := v4 + 1) (lv' := [(4, .int (v4 + 1)), (0, .ref (ad 0)), (1, .int v1), (2, .int v2), (3, .int v3)]) hx hb dX5_make_218 hl (k := 4) rfl rfl (by decide) rfl (fun ls hl => ?_)
                refine lv_goto (tgt := 190) hx hb dX5_make_221 (by decide) ?_
                exact ih190 _ _ _ _ _ _ _ _ hM hP hS (lv_sub hl [1, 2, 3, 4, 0] rfl)
        intro c v1 v2 v3 H locs ls hM hP hS hl
        unfold pX5_make_151 at hM
        refine lv_iload_n hx hb dX5_make_151 rfl (lv_at hl 3 rfl) ?_
        refine lv_iconst (v := (-1)) hx hb dX5_make_152 (by decide) ?_
        refine lv_icmp_ne (tgt := 159) hx hb dX5_make_153 (by decide) (fun e16 => ?_) (fun e16 => ?_)
        · have hM := it_n e16 hM
          refine lv_aload_n hx hb dX5_make_159 rfl (lv_at hl 0 rfl) ?_
          refine gget (v := .ref (ad 6)) hx hb hts i5 hown hK1 hP 0 rfl rfl 6 (by decide) f30 rfl rfl dX5_make_160 ?_
          refine lv_iload_n hx hb dX5_make_163 rfl (lv_at hl 3 rfl) ?_
          refine lv_iconst (v := 1) hx hb dX5_make_164 (by decide) ?_
          obtain ⟨h9, h9z, c8, hc8, hM⟩ := stZ_some sm_ne hM
          refine gzst (w := wM ad cA) (c := c) (c1 := c8) hx hb hK1 hP (hD c) hS 6 5 rfl rfl h9 h9z (by rw [hc8]; rfl) dX5_make_165 (fun H locs hP hS => ?_)
          refine lv_aload_n hx hb dX5_make_166 rfl (lv_at hl 0 rfl) ?_
          refine gget (v := .ref (ad 7)) hx hb hts i5 hown hK1 hP 0 rfl rfl 7 (by decide) f33 rfl rfl dX5_make_167 ?_
          refine lv_iload_n hx hb dX5_make_170 rfl (lv_at hl 3 rfl) ?_
          refine lv_iconst (v := 0) hx hb dX5_make_171 (by decide) ?_
          obtain ⟨h11, h11z, c10, hc10, hM⟩ := stZ_some sm_ne hM
          refine gzst (w := wM ad cA) (c := c8) (c1 := c10) hx hb hK1 hP (hD c8) hS 7 6 rfl rfl h11 h11z (by rw [hc10]; rfl) dX5_make_172 (fun H locs hP hS => ?_)
          refine lv_aload_n hx hb dX5_make_173 rfl (lv_at hl 0 rfl) ?_
          refine gget (v := .ref (ad 9)) hx hb hts i5 hown hK1 hP 0 rfl rfl 9 (by decide) f39 rfl rfl dX5_make_174 ?_
          refine lv_iload_n hx hb dX5_make_177 rfl (lv_at hl 3 rfl) ?_
          refine lv_iload_n hx hb dX5_make_178 rfl (lv_at hl 1 rfl) ?_
          obtain ⟨h13, c12, hc12, hM⟩ := stA_some sm_ne hM
          refine gast (w := wM ad cA) (c := c10) (c1 := c12) hx hb hK1 hP (hD c10) hS 9 8 rfl rfl h13 (by rw [hc12]; rfl) dX5_make_179 (fun H locs hP hS => ?_)
          refine lv_aload_n hx hb dX5_make_180 rfl (lv_at hl 0 rfl) ?_
          refine gget (v := .ref (ad 10)) hx hb hts i5 hown hK1 hP 0 rfl rfl 10 (by decide) f42 rfl rfl dX5_make_181 ?_
          refine lv_iload_n hx hb dX5_make_184 rfl (lv_at hl 3 rfl) ?_
          refine lv_iload_n hx hb dX5_make_185 rfl (lv_at hl 2 rfl) ?_
          obtain ⟨h15, c14, hc14, hM⟩ := stA_some sm_ne hM
          refine gast (w := wM ad cA) (c := c12) (c1 := c14) hx hb hK1 hP (hD c12) hS 10 9 rfl rfl h15 (by rw [hc14]; rfl) dX5_make_186 (fun H locs hP hS => ?_)
          refine lv_iconst (v := 0) hx hb dX5_make_187 (by decide) ?_
          refine lv_istore (lv' := [(4, .int 0), (0, .ref (ad 0)), (1, .int v1), (2, .int v2), (3, .int v3)]) hx hb dX5_make_188 hl (by decide) rfl (fun ls hl => ?_)
          exact L190 _ _ _ _ _ _ _ _ _ hM hP hS (lv_sub hl [1, 2, 3, 4, 0] rfl)
        · have hM := it_p e16 hM
          refine lv_bipush (v := (-104)) hx hb dX5_make_156 (by decide) ?_
          exact W.iret hx hb hr (fun t ht hW => ⟨⟨_, _, rfl, pr2 hM, hPt ht hP⟩, hS.F ht⟩) hS.2.2 dX5_make_158
      intro c v1 v2 v3 H locs ls hM hP hS hl
      unfold pX5_make_137 at hM
      refine lv_iload_n hx hb dX5_make_137 rfl (lv_at hl 3 rfl) ?_
      refine lv_iconst (v := (-1)) hx hb dX5_make_138 (by decide) ?_
      refine lv_icmp_ne (tgt := 151) hx hb dX5_make_139 (by decide) (fun e20 => ?_) (fun e20 => ?_)
      · have hM := it_n e20 hM
        exact L151 _ _ _ _ _ _ _ hM hP hS (lv_sub hl [0, 1, 2, 3] rfl)
      · have hM := it_p e20 hM
        refine lv_aload_n hx hb dX5_make_142 rfl (lv_at hl 0 rfl) ?_
        refine lv_iload_n hx hb dX5_make_143 rfl (lv_at hl 1 rfl) ?_
        refine lv_iload_n hx hb dX5_make_144 rfl (lv_at hl 2 rfl) ?_
        refine lv_iadd hx hb dX5_make_145 ?_
        refine lv_iconst (v := 0) hx hb dX5_make_146 (by decide) ?_
        obtain ⟨r19, c18, h17, hM⟩ := bd2_some sm_ne hM
        refine gCi (gV (As := [.int (v1 + v2), .int 0]) (rest := []) ⟨hx, hb, hml, hown, hts⟩ (kX5_place l dC dI ad cA hap _ c (v1 + v2) 0 _ _ h17) (cwV 2 hts gX5_make_X5_place rfl rfl rfl (by decide +kernel) ⟨Nat.le_of_ble_eq_true rfl, Nat.le_of_ble_eq_true rfl⟩) (kM_st _ _) hK hP (va_recv hK1 hP (ci := 5) (q0 := 0) rfl rfl) rfl hl.1 rfl (Nat.le_of_ble_eq_true rfl) dX5_make_147 ⟨Nat.zero_le _, Nat.zero_le _⟩) hS (fun H locs hP hS => ?_)
        refine lv_istore_n (lv' := [(3, .int r19), (0, .ref (ad 0)), (1, .int v1), (2, .int v2)]) hx hb dX5_make_150 rfl hl (by decide) rfl (fun ls hl => ?_)
        exact L151 _ _ _ _ _ _ _ hM hP hS (lv_sub hl [1, 2, 3, 0] rfl)
    intro c v1 v2 v3 H locs ls hM hP hS hl
    unfold pX5_make_92 at hM
    refine lv_iload_n hx hb dX5_make_92 rfl (lv_at hl 3 rfl) ?_
    refine lv_iconst (v := (-1)) hx hb dX5_make_93 (by decide) ?_
    refine lv_icmp_ne (tgt := 137) hx hb dX5_make_94 (by decide) (fun e30 => ?_) (fun e30 => ?_)
    · have hM := it_n e30 hM
      exact L137 _ _ _ _ _ _ _ hM hP hS (lv_sub hl [0, 1, 2, 3] rfl)
    · have hM := it_p e30 hM
      refine lv_aload_n hx hb dX5_make_97 rfl (lv_at hl 0 rfl) ?_
      refine gget (v := .int (c.1 0 4)) hx hb hts i5 hown hK1 hP 0 rfl rfl 17 (by decide) f54 rfl rfl dX5_make_98 ?_
      refine lv_if_eq (tgt := 137) hx hb dX5_make_101 (by decide) (fun e29 => ?_) (fun e29 => ?_)
      · have hM := it_p e29 hM
        exact L137 _ _ _ _ _ _ _ hM hP hS (lv_sub hl [0, 1, 2, 3] rfl)
      · have hM := it_n e29 hM
        refine lv_aload_n hx hb dX5_make_104 rfl (lv_at hl 0 rfl) ?_
        refine lv_dup hx hb dX5_make_105 rfl ?_
        refine gget (v := .int (c.1 0 8)) hx hb hts i5 hown hK1 hP 0 rfl rfl 21 (by decide) f108 rfl rfl dX5_make_106 ?_
        refine lv_aload_n hx hb dX5_make_109 rfl (lv_at hl 0 rfl) ?_
        refine lv_iconst (v := 1) hx hb dX5_make_110 (by decide) ?_
        obtain ⟨r23, c22, h21, hM⟩ := bd2_some sm_ne hM
        refine gCi (gV (As := [.int 1]) (rest := [.int (c.1 0 8), .ref (ad 0)]) ⟨hx, hb, hml, hown, hts⟩ (kX5_collect l dC dI ad cA hap _ c 1 _ _ h21) (cwV 1 hts gX5_make_X5_collect rfl rfl rfl (by decide +kernel) ⟨Nat.le_of_ble_eq_true rfl, Nat.le_of_ble_eq_true rfl⟩) (kM_st _ _) hK hP (va_recv hK1 hP (ci := 5) (q0 := 0) rfl rfl) rfl hl.1 rfl (Nat.le_of_ble_eq_true rfl) dX5_make_111 ⟨Nat.zero_le _, Nat.zero_le _⟩) hS (fun H locs hP hS => ?_)
        refine lv_iadd hx hb dX5_make_114 ?_
        obtain ⟨c24, hc24, hM⟩ := pfA_some hM
        refine gput (w := wM ad cA) (c := c22) (c1 := c24) (v := .int ((c.1 0 8) + r23)) hx hb hts i5 tyX5 tyX5_ok nmX5 hown hK1 hP (hD c22) hS 0 rfl rfl 21 (by decide) f108 rfl rfl rfl rfl (Nat.le_of_ble_eq_true rfl) (by rw [hc24]; rfl) dX5_make_115 (fun H locs hP hS => ?_)
        refine lv_aload_n hx hb dX5_make_118 rfl (lv_at hl 0 rfl) ?_
        refine lv_dup hx hb dX5_make_119 rfl ?_
        refine gget (v := .int (c24.1 0 10)) hx hb hts i5 hown hK1 hP 0 rfl rfl 23 (by decide) f118 rfl rfl dX5_make_120 ?_
        refine lv_iconst (v := 1) hx hb dX5_make_123 (by decide) ?_
        refine lv_iadd hx hb dX5_make_124 ?_
        obtain ⟨c25, hc25, hM⟩ := pfA_some hM
        refine gput (w := wM ad cA) (c := c24) (c1 := c25) (v := .int ((c24.1 0 10) + 1)) hx hb hts i5 tyX5 tyX5_ok nmX5 hown hK1 hP (hD c24) hS 0 rfl rfl 23 (by decide) f118 rfl rfl rfl rfl (Nat.le_of_ble_eq_true rfl) (by rw [hc25]; rfl) dX5_make_125 (fun H locs hP hS => ?_)
        refine lv_aload_n hx hb dX5_make_128 rfl (lv_at hl 0 rfl) ?_
        refine lv_iload_n hx hb dX5_make_129 rfl (lv_at hl 1 rfl) ?_
        refine lv_iload_n hx hb dX5_make_130 rfl (lv_at hl 2 rfl) ?_
        refine lv_iadd hx hb dX5_make_131 ?_
        refine lv_iconst (v := 1) hx hb dX5_make_132 (by decide) ?_
        obtain ⟨r28, c27, h26, hM⟩ := bd2_some sm_ne hM
        refine gCi (gV (As := [.int (v1 + v2), .int 1]) (rest := []) ⟨hx, hb, hml, hown, hts⟩ (kX5_place l dC dI ad cA hap _ c25 (v1 + v2) 1 _ _ h26) (cwV 2 hts gX5_make_X5_place rfl rfl rfl (by decide +kernel) ⟨Nat.le_of_ble_eq_true rfl, Nat.le_of_ble_eq_true rfl⟩) (kM_st _ _) hK hP (va_recv hK1 hP (ci := 5) (q0 := 0) rfl rfl) rfl hl.1 rfl (Nat.le_of_ble_eq_true rfl) dX5_make_133 ⟨Nat.zero_le _, Nat.zero_le _⟩) hS (fun H locs hP hS => ?_)
        refine lv_istore_n (lv' := [(3, .int r28), (0, .ref (ad 0)), (1, .int v1), (2, .int v2)]) hx hb dX5_make_136 rfl hl (by decide) rfl (fun ls hl => ?_)
        exact L137 _ _ _ _ _ _ _ hM hP hS (lv_sub hl [1, 2, 3, 0] rfl)
  have hl := lv_entry [.ref (ad 0), .int a1, .int a2] (n := 5) (Nat.le_of_ble_eq_true rfl)
  rw [lg_entry_eq]
  generalize (lg_sl [.ref (ad 0), .int a1, .int a2] ++ List.replicate (5 - (lg_sl [.ref (ad 0), .int a1, .int a2]).length) Slot.unset).toArray = ls at hl ⊢
  have hl : lv_has ls 5 [(0, .ref (ad 0)), (1, .int a1), (2, .int a2)] := hl
  have hP : va_P (dC, dI) vwCl (wM ad cA c) s.heap := hP
  unfold pX5_make at hM
  refine lv_iload_n hx hb dX5_make_0 rfl (lv_at hl 1 rfl) ?_
  refine lv_if_lt (tgt := 35) hx hb dX5_make_1 (by decide) (fun e48 => ?_) (fun e48 => ?_)
  · have hM := it_p e48 hM
    refine lv_bipush (v := (-102)) hx hb dX5_make_35 (by decide) ?_
    exact W.iret hx hb hr (fun t ht hW => ⟨⟨_, _, rfl, pr2 hM, hPt ht hP⟩, hS.F ht⟩) hS.2.2 dX5_make_37
  · have hM := it_n e48 hM
    refine lv_iload_n hx hb dX5_make_4 rfl (lv_at hl 2 rfl) ?_
    refine lv_if_lt (tgt := 35) hx hb dX5_make_5 (by decide) (fun e47 => ?_) (fun e47 => ?_)
    · have hM := it_p e47 hM
      refine lv_bipush (v := (-102)) hx hb dX5_make_35 (by decide) ?_
      exact W.iret hx hb hr (fun t ht hW => ⟨⟨_, _, rfl, pr2 hM, hPt ht hP⟩, hS.F ht⟩) hS.2.2 dX5_make_37
    · have hM := it_n e47 hM
      refine lv_iload_n hx hb dX5_make_8 rfl (lv_at hl 1 rfl) ?_
      refine lv_sipush (v := 256) hx hb dX5_make_9 (by decide) ?_
      refine lv_icmp_gt (tgt := 35) hx hb dX5_make_12 (by decide) (fun e46 => ?_) (fun e46 => ?_)
      · have hM := it_p e46 hM
        refine lv_bipush (v := (-102)) hx hb dX5_make_35 (by decide) ?_
        exact W.iret hx hb hr (fun t ht hW => ⟨⟨_, _, rfl, pr2 hM, hPt ht hP⟩, hS.F ht⟩) hS.2.2 dX5_make_37
      · have hM := it_n e46 hM
        refine lv_iload_n hx hb dX5_make_15 rfl (lv_at hl 2 rfl) ?_
        refine lv_sipush (v := 256) hx hb dX5_make_16 (by decide) ?_
        refine lv_icmp_gt (tgt := 35) hx hb dX5_make_19 (by decide) (fun e45 => ?_) (fun e45 => ?_)
        · have hM := it_p e45 hM
          refine lv_bipush (v := (-102)) hx hb dX5_make_35 (by decide) ?_
          exact W.iret hx hb hr (fun t ht hW => ⟨⟨_, _, rfl, pr2 hM, hPt ht hP⟩, hS.F ht⟩) hS.2.2 dX5_make_37
        · have hM := it_n e45 hM
          refine lv_iload_n hx hb dX5_make_22 rfl (lv_at hl 1 rfl) ?_
          refine lv_iload_n hx hb dX5_make_23 rfl (lv_at hl 2 rfl) ?_
          refine lv_iadd hx hb dX5_make_24 ?_
          refine lv_iconst (v := 1) hx hb dX5_make_25 (by decide) ?_
          refine lv_sipush (v := 256) hx hb dX5_make_26 (by decide) ?_
          refine gCi (gS (As := [.int (a1 + a2), .int 1, .int 256]) (rest := []) ⟨hx, hb, hml, hown, hts⟩ (kX5_in l dC dI ad cA hap _ c (a1 + a2) 1 256 _ rfl) (va_cwS 3 hts gX5_make_X5_in rfl rfl rfl (by decide +kernel) ⟨Nat.le_of_ble_eq_true rfl, Nat.le_of_ble_eq_true rfl⟩) (kM_st _ _) hK hP rfl hl.1 rfl (Nat.le_of_ble_eq_true rfl) dX5_make_29 ⟨Nat.zero_le _, Nat.zero_le _⟩) hS (fun H locs hP hS => ?_)
          refine lv_if_ne (tgt := 38) hx hb dX5_make_32 (by decide) (fun e44 => ?_) (fun e44 => ?_)
          · have hM := it_n e44 hM
            refine lv_aload_n hx hb dX5_make_38 rfl (lv_at hl 0 rfl) ?_
            refine lv_iload_n hx hb dX5_make_39 rfl (lv_at hl 1 rfl) ?_
            refine lv_iload_n hx hb dX5_make_40 rfl (lv_at hl 2 rfl) ?_
            refine lv_iadd hx hb dX5_make_41 ?_
            refine lv_iconst (v := 1) hx hb dX5_make_42 (by decide) ?_
            obtain ⟨r33, c32, h31, hM⟩ := bd2_some sm_ne hM
            refine gCi (gV (As := [.int (a1 + a2), .int 1]) (rest := []) ⟨hx, hb, hml, hown, hts⟩ (kX5_place l dC dI ad cA hap _ c (a1 + a2) 1 _ _ h31) (cwV 2 hts gX5_make_X5_place rfl rfl rfl (by decide +kernel) ⟨Nat.le_of_ble_eq_true rfl, Nat.le_of_ble_eq_true rfl⟩) (kM_st _ _) hK hP (va_recv hK1 hP (ci := 5) (q0 := 0) rfl rfl) rfl hl.1 rfl (Nat.le_of_ble_eq_true rfl) dX5_make_43 ⟨Nat.zero_le _, Nat.zero_le _⟩) hS (fun H locs hP hS => ?_)
            refine lv_istore_n (lv' := [(3, .int r33), (0, .ref (ad 0)), (1, .int a1), (2, .int a2)]) hx hb dX5_make_46 rfl hl (by decide) rfl (fun ls hl => ?_)
            refine lv_iload_n hx hb dX5_make_47 rfl (lv_at hl 0 rfl) ?_
            refine lv_iconst (v := (-1)) hx hb dX5_make_48 (by decide) ?_
            refine lv_icmp_ne (tgt := 92) hx hb dX5_make_49 (by decide) (fun e43 => ?_) (fun e43 => ?_)
            · have hM := it_n e43 hM
              exact L92 _ _ _ _ _ _ _ hM hP hS (lv_sub hl [1, 2, 3, 0] rfl)
            · have hM := it_p e43 hM
              refine lv_aload_n hx hb dX5_make_52 rfl (lv_at hl 1 rfl) ?_
              refine gget (v := .int (c32.1 0 4)) hx hb hts i5 hown hK1 hP 0 rfl rfl 17 (by decide) f54 rfl rfl dX5_make_53 ?_
              refine lv_if_eq (tgt := 92) hx hb dX5_make_56 (by decide) (fun e42 => ?_) (fun e42 => ?_)
              · have hM := it_p e42 hM
                exact L92 _ _ _ _ _ _ _ hM hP hS (lv_sub hl [1, 2, 3, 0] rfl)
              · have hM := it_n e42 hM
                refine lv_aload_n hx hb dX5_make_59 rfl (lv_at hl 1 rfl) ?_
                refine lv_dup hx hb dX5_make_60 rfl ?_
                refine gget (v := .int (c32.1 0 8)) hx hb hts i5 hown hK1 hP 0 rfl rfl 21 (by decide) f108 rfl rfl dX5_make_61 ?_
                refine lv_aload_n hx hb dX5_make_64 rfl (lv_at hl 1 rfl) ?_
                refine lv_iconst (v := 0) hx hb dX5_make_65 (by decide) ?_
                obtain ⟨r36, c35, h34, hM⟩ := bd2_some sm_ne hM
                refine gCi (gV (As := [.int 0]) (rest := [.int (c32.1 0 8), .ref (ad 0)]) ⟨hx, hb, hml, hown, hts⟩ (kX5_collect l dC dI ad cA hap _ c32 0 _ _ h34) (cwV 1 hts gX5_make_X5_collect rfl rfl rfl (by decide +kernel) ⟨Nat.le_of_ble_eq_true rfl, Nat.le_of_ble_eq_true rfl⟩) (kM_st _ _) hK hP (va_recv hK1 hP (ci := 5) (q0 := 0) rfl rfl) rfl hl.1 rfl (Nat.le_of_ble_eq_true rfl) dX5_make_66 ⟨Nat.zero_le _, Nat.zero_le _⟩) hS (fun H locs hP hS => ?_)
                refine lv_iadd hx hb dX5_make_69 ?_
                obtain ⟨c37, hc37, hM⟩ := pfA_some hM
                refine gput (w := wM ad cA) (c := c35) (c1 := c37) (v := .int ((c32.1 0 8) + r36)) hx hb hts i5 tyX5 tyX5_ok nmX5 hown hK1 hP (hD c35) hS 0 rfl rfl 21 (by decide) f108 rfl rfl rfl rfl (Nat.le_of_ble_eq_true rfl) (by rw [hc37]; rfl) dX5_make_70 (fun H locs hP hS => ?_)
                refine lv_aload_n hx hb dX5_make_73 rfl (lv_at hl 1 rfl) ?_
                refine lv_dup hx hb dX5_make_74 rfl ?_
                refine gget (v := .int (c37.1 0 9)) hx hb hts i5 hown hK1 hP 0 rfl rfl 22 (by decide) f115 rfl rfl dX5_make_75 ?_
                refine lv_iconst (v := 1) hx hb dX5_make_78 (by decide) ?_
                refine lv_iadd hx hb dX5_make_79 ?_
                obtain ⟨c38, hc38, hM⟩ := pfA_some hM
                refine gput (w := wM ad cA) (c := c37) (c1 := c38) (v := .int ((c37.1 0 9) + 1)) hx hb hts i5 tyX5 tyX5_ok nmX5 hown hK1 hP (hD c37) hS 0 rfl rfl 22 (by decide) f115 rfl rfl rfl rfl (Nat.le_of_ble_eq_true rfl) (by rw [hc38]; rfl) dX5_make_80 (fun H locs hP hS => ?_)
                refine lv_aload_n hx hb dX5_make_83 rfl (lv_at hl 1 rfl) ?_
                refine lv_iload_n hx hb dX5_make_84 rfl (lv_at hl 2 rfl) ?_
                refine lv_iload_n hx hb dX5_make_85 rfl (lv_at hl 3 rfl) ?_
                refine lv_iadd hx hb dX5_make_86 ?_
                refine lv_iconst (v := 1) hx hb dX5_make_87 (by decide) ?_
                obtain ⟨r41, c40, h39, hM⟩ := bd2_some sm_ne hM
                refine gCi (gV (As := [.int (a1 + a2), .int 1]) (rest := []) ⟨hx, hb, hml, hown, hts⟩ (kX5_place l dC dI ad cA hap _ c38 (a1 + a2) 1 _ _ h39) (cwV 2 hts gX5_make_X5_place rfl rfl rfl (by decide +kernel) ⟨Nat.le_of_ble_eq_true rfl, Nat.le_of_ble_eq_true rfl⟩) (kM_st _ _) hK hP (va_recv hK1 hP (ci := 5) (q0 := 0) rfl rfl) rfl hl.1 rfl (Nat.le_of_ble_eq_true rfl) dX5_make_88 ⟨Nat.zero_le _, Nat.zero_le _⟩) hS (fun H locs hP hS => ?_)
                refine lv_istore_n (lv' := [(3, .int r41), (0, .ref (ad 0)), (1, .int a1), (2, .int a2)]) hx hb dX5_make_91 rfl hl (by decide) rfl (fun ls hl => ?_)
                exact L92 _ _ _ _ _ _ _ hM hP hS (lv_sub hl [1, 2, 3, 0] rfl)
          · have hM := it_p e44 hM
            refine lv_bipush (v := (-102)) hx hb dX5_make_35 (by decide) ?_
            exact W.iret hx hb hr (fun t ht hW => ⟨⟨_, _, rfl, pr2 hM, hPt ht hP⟩, hS.F ht⟩) hS.2.2 dX5_make_37
set_option maxHeartbeats 4000000 in
set_option maxRecDepth 100000 in
theorem kX5_isThing (l : Launch) (dC : Nat → ClassId) (dI : Nat → Nat → Nat) (ad : Nat → Nat) (cA : Nat → ClassId) (hap : apart 15 ad) (sz : Nat) (c : HS) (a1 : Int32) (r0 : Int32) (hM : pX5_isThing c a1 = some r0) : Met l yX5_isThing wsX5_isThing ({ frames := 1, cells := 0, slots := 0, locals := 22 }) (gP (dC, dI) (wM ad cA) (kM (dC, dI) cA) c sz [.ref (ad 0), .int a1]) (gQi (dC, dI) (wM ad cA) (fA 15 ad sz) r0 c) 0 0 (fA 15 ad sz) := by
  refine Met.ofW (cc := cX5_isThing) (maxL := 2) (ret := (some .boolean)) (by decide) rfl ?_
  intro p e s m args below meth cd s₁ B hml hv
  obtain ⟨rfl, rfl, hP, hK⟩ := hv
  have hx := B.exec
  have hb := B.bytes
  have hr := B.returns
  have hts := atoms_spec (ws := wsX5_isThing) B.pre
  have hown : s.vm.findClass RX5 = some m.cls := findClass_of_methodNamed B.named
  have hlocks := B.notSynchronized
  have hK1 : va_K (dC, dI) vwCl (tM cA) s := hK
  have hD : ∀ c, va_D (fA 15 ad s.heap.size) (wM ad cA c) := fun c => dM_ok hap cA c _
  have hS : va_S (fA 15 ad s.heap.size) s.heap s.heap [] := va_S.rf
  have i5 : ∀ w ∈ u_ws RX5 TX5 27, w ∈ wsX5_isThing := by decide +kernel
  have f7 := hts (.fieldLink RX5 7 "StickyHeapModel" "blocks" "I") (by decide +kernel)
  have f30 := hts (.fieldLink RX5 30 "StickyHeapModel" "begins" "[Z") (by decide +kernel)
  have hl := lv_entry [.ref (ad 0), .int a1] (n := 2) (Nat.le_of_ble_eq_true rfl)
  rw [lg_entry_eq]
  generalize (lg_sl [.ref (ad 0), .int a1] ++ List.replicate (2 - (lg_sl [.ref (ad 0), .int a1]).length) Slot.unset).toArray = ls at hl ⊢
  have hl : lv_has ls 2 [(0, .ref (ad 0)), (1, .int a1)] := hl
  have hP : va_P (dC, dI) vwCl (wM ad cA c) s.heap := hP
  unfold pX5_isThing at hM
  refine lv_iload_n hx hb dX5_isThing_0 rfl (lv_at hl 1 rfl) ?_
  refine lv_iconst (v := 0) hx hb dX5_isThing_1 (by decide) ?_
  refine lv_bipush (v := 64) hx hb dX5_isThing_2 (by decide) ?_
  refine lv_aload_n hx hb dX5_isThing_4 rfl (lv_at hl 0 rfl) ?_
  refine gget (v := .int (c.1 0 0)) hx hb hts i5 hown hK1 hP 0 rfl rfl 0 (by decide) f7 rfl rfl dX5_isThing_5 ?_
  refine lv_imul hx hb dX5_isThing_8 ?_
  refine lv_iconst (v := 1) hx hb dX5_isThing_9 (by decide) ?_
  refine lv_isub hx hb dX5_isThing_10 ?_
  refine gCi (gS (As := [.int a1, .int 0, .int ((64 * (c.1 0 0)) - 1)]) (rest := []) ⟨hx, hb, hml, hown, hts⟩ (kX5_in l dC dI ad cA hap _ c a1 0 ((64 * (c.1 0 0)) - 1) _ rfl) (va_cwS 3 hts gX5_isThing_X5_in rfl rfl rfl (by decide +kernel) ⟨Nat.le_of_ble_eq_true rfl, Nat.le_of_ble_eq_true rfl⟩) (kM_st _ _) hK hP rfl hl.1 rfl (Nat.le_of_ble_eq_true rfl) dX5_isThing_11 ⟨Nat.zero_le _, Nat.zero_le _⟩) hS (fun H locs hP hS => ?_)
  refine lv_if_eq (tgt := 30) hx hb dX5_isThing_14 (by decide) (fun e4 => ?_) (fun e4 => ?_)
  · have hM := it_p e4 hM
    refine lv_iconst (v := 0) hx hb dX5_isThing_30 (by decide) ?_
    exact W.zret hx hb hr rfl (fun t ht hW => ⟨⟨_, _, rfl, ⟨pr1 hM, rfl⟩, hPt ht hP⟩, hS.F ht⟩) hS.2.2 dX5_isThing_31
  · have hM := it_n e4 hM
    refine lv_aload_n hx hb dX5_isThing_17 rfl (lv_at hl 0 rfl) ?_
    refine gget (v := .ref (ad 6)) hx hb hts i5 hown hK1 hP 0 rfl rfl 6 (by decide) f30 rfl rfl dX5_isThing_18 ?_
    refine lv_iload_n hx hb dX5_isThing_21 rfl (lv_at hl 1 rfl) ?_
    obtain ⟨h2, x1, hx1, hM⟩ := ldA_some sm_ne hM
    refine gzld hx hb hK1 hP 6 5 rfl rfl h2 hx1 dX5_isThing_22 ?_
    refine lv_if_eq (tgt := 30) hx hb dX5_isThing_23 (by decide) (fun e3 => ?_) (fun e3 => ?_)
    · have hM := it_p e3 hM
      refine lv_iconst (v := 0) hx hb dX5_isThing_30 (by decide) ?_
      exact W.zret hx hb hr rfl (fun t ht hW => ⟨⟨_, _, rfl, ⟨pr1 hM, rfl⟩, hPt ht hP⟩, hS.F ht⟩) hS.2.2 dX5_isThing_31
    · have hM := it_n e3 hM
      refine lv_iconst (v := 1) hx hb dX5_isThing_26 (by decide) ?_
      refine lv_goto (tgt := 31) hx hb dX5_isThing_27 (by decide) ?_
      exact W.zret hx hb hr rfl (fun t ht hW => ⟨⟨_, _, rfl, ⟨pr1 hM, rfl⟩, hPt ht hP⟩, hS.F ht⟩) hS.2.2 dX5_isThing_31
set_option maxHeartbeats 4000000 in
set_option maxRecDepth 100000 in
theorem kX5_put (l : Launch) (dC : Nat → ClassId) (dI : Nat → Nat → Nat) (ad : Nat → Nat) (cA : Nat → ClassId) (hap : apart 15 ad) (sz : Nat) (c : HS) (a1 : Int32) (a2 : Int32) (a3 : Int32) (r0 : Int32) (c9 : HS) (hM : pX5_put c a1 a2 a3 = some (r0, c9)) : Met l yX5_put wsX5_put ({ frames := 2, cells := 0, slots := 0, locals := 43 }) (gP (dC, dI) (wM ad cA) (kM (dC, dI) cA) c sz [.ref (ad 0), .int a1, .int a2, .int a3]) (gQi (dC, dI) (wM ad cA) (fA 15 ad sz) r0 c9) 0 0 (fA 15 ad sz) := by
  refine Met.ofW (cc := cX5_put) (maxL := 4) (ret := (some .int)) (by decide) rfl ?_
  intro p e s m args below meth cd s₁ B hml hv
  obtain ⟨rfl, rfl, hP, hK⟩ := hv
  have hx := B.exec
  have hb := B.bytes
  have hr := B.returns
  have hts := atoms_spec (ws := wsX5_put) B.pre
  have hown : s.vm.findClass RX5 = some m.cls := findClass_of_methodNamed B.named
  have hlocks := B.notSynchronized
  have hK1 : va_K (dC, dI) vwCl (tM cA) s := hK
  have hD : ∀ c, va_D (fA 15 ad s.heap.size) (wM ad cA c) := fun c => dM_ok hap cA c _
  have hS : va_S (fA 15 ad s.heap.size) s.heap s.heap [] := va_S.rf
  have i5 : ∀ w ∈ u_ws RX5 TX5 27, w ∈ wsX5_put := by decide +kernel
  have f20 := hts (.fieldLink RX5 20 "StickyHeapModel" "dirty" "[Z") (by decide +kernel)
  have f27 := hts (.fieldLink RX5 27 "StickyHeapModel" "words" "[I") (by decide +kernel)
  have f33 := hts (.fieldLink RX5 33 "StickyHeapModel" "isOld" "[Z") (by decide +kernel)
  have f39 := hts (.fieldLink RX5 39 "StickyHeapModel" "references" "[I") (by decide +kernel)
  have f51 := hts (.fieldLink RX5 51 "StickyHeapModel" "log" "[I") (by decide +kernel)
  have f72 := hts (.fieldLink RX5 72 "StickyHeapModel" "logged" "I") (by decide +kernel)
  have f75 := hts (.fieldLink RX5 75 "StickyHeapModel" "isOver" "Z") (by decide +kernel)
  have f81 := hts (.fieldLink RX5 81 "StickyHeapModel" "way" "I") (by decide +kernel)
  have L24 : ∀ (c : HS) (v1 : Int32) (v2 : Int32) (v3 : Int32) (H : Heap) (locs : List Loc) (ls : Array Slot), pX5_put_24 c v1 v2 v3 = some (r0, c9) → va_P (dC, dI) vwCl (wM ad cA c) H → va_S (fA 15 ad s.heap.size) s.heap H locs → lv_has ls 4 [(0, .ref (ad 0)), (1, .int v1), (2, .int v2), (3, .int v3)] → W p l e (headSpec wsX5_put ({ frames := 2, cells := 0, slots := 0, locals := 43 })).room s m ([.ref (ad 0), .int a1, .int a2, .int a3]).toArray below meth cd H locs 0 0 (MQ below (gQi (dC, dI) (wM ad cA) (fA 15 ad s.heap.size) r0 c9) ([.ref (ad 0), .int a1, .int a2, .int a3]).toArray s 0 0 (fA 15 ad s.heap.size)) (F0 m 24 ls []) := by
    intro c v1 v2 v3 H locs ls hM hP hS hl
    unfold pX5_put_24 at hM
    refine lv_iload_n hx hb dX5_put_24 rfl (lv_at hl 2 rfl) ?_
    refine lv_iconst (v := 0) hx hb dX5_put_25 (by decide) ?_
    refine lv_aload_n hx hb dX5_put_26 rfl (lv_at hl 0 rfl) ?_
    refine gget (v := .ref (ad 9)) hx hb hts i5 hown hK1 hP 0 rfl rfl 9 (by decide) f39 rfl rfl dX5_put_27 ?_
    refine lv_iload_n hx hb dX5_put_30 rfl (lv_at hl 1 rfl) ?_
    obtain ⟨h2, x1, hx1, hM⟩ := ldA_some sm_ne hM
    refine gald hx hb hK1 hP 9 8 rfl rfl h2 hx1 dX5_put_31 ?_
    refine lv_iconst (v := 1) hx hb dX5_put_32 (by decide) ?_
    refine lv_isub hx hb dX5_put_33 ?_
    refine gCi (gS (As := [.int v2, .int 0, .int (x1 - 1)]) (rest := []) ⟨hx, hb, hml, hown, hts⟩ (kX5_in l dC dI ad cA hap _ c v2 0 (x1 - 1) _ rfl) (va_cwS 3 hts gX5_put_X5_in rfl rfl rfl (by decide +kernel) ⟨Nat.le_of_ble_eq_true rfl, Nat.le_of_ble_eq_true rfl⟩) (kM_st _ _) hK hP rfl hl.1 rfl (Nat.le_of_ble_eq_true rfl) dX5_put_34 ⟨Nat.zero_le _, Nat.zero_le _⟩) hS (fun H locs hP hS => ?_)
    refine lv_if_ne (tgt := 43) hx hb dX5_put_37 (by decide) (fun e20 => ?_) (fun e20 => ?_)
    · have hM := it_n e20 hM
      refine lv_aload_n hx hb dX5_put_43 rfl (lv_at hl 0 rfl) ?_
      refine gget (v := .ref (ad 5)) hx hb hts i5 hown hK1 hP 0 rfl rfl 5 (by decide) f27 rfl rfl dX5_put_44 ?_
      refine lv_iload_n hx hb dX5_put_47 rfl (lv_at hl 1 rfl) ?_
      refine lv_iload_n hx hb dX5_put_48 rfl (lv_at hl 2 rfl) ?_
      refine lv_iadd hx hb dX5_put_49 ?_
      refine lv_iload_n hx hb dX5_put_50 rfl (lv_at hl 3 rfl) ?_
      obtain ⟨h4, c3, hc3, hM⟩ := stA_some sm_ne hM
      refine gast (w := wM ad cA) (c := c) (c1 := c3) hx hb hK1 hP (hD c) hS 5 4 rfl rfl h4 (by rw [hc3]; rfl) dX5_put_51 (fun H locs hP hS => ?_)
      refine lv_aload_n hx hb dX5_put_52 rfl (lv_at hl 0 rfl) ?_
      refine gget (v := .int (c3.1 0 5)) hx hb hts i5 hown hK1 hP 0 rfl rfl 18 (by decide) f81 rfl rfl dX5_put_53 ?_
      refine lv_iconst (v := 1) hx hb dX5_put_56 (by decide) ?_
      refine lv_icmp_ne (tgt := 75) hx hb dX5_put_57 (by decide) (fun e19 => ?_) (fun e19 => ?_)
      · have hM := it_n e19 hM
        refine lv_aload_n hx hb dX5_put_75 rfl (lv_at hl 0 rfl) ?_
        refine gget (v := .ref (ad 7)) hx hb hts i5 hown hK1 hP 0 rfl rfl 7 (by decide) f33 rfl rfl dX5_put_76 ?_
        refine lv_iload_n hx hb dX5_put_79 rfl (lv_at hl 1 rfl) ?_
        obtain ⟨h6, x5, hx5, hM⟩ := ldA_some sm_ne hM
        refine gzld hx hb hK1 hP 7 6 rfl rfl h6 hx5 dX5_put_80 ?_
        refine lv_if_eq (tgt := 136) hx hb dX5_put_81 (by decide) (fun e16 => ?_) (fun e16 => ?_)
        · have hM := it_p e16 hM
          refine lv_iconst (v := 1) hx hb dX5_put_136 (by decide) ?_
          exact W.iret hx hb hr (fun t ht hW => ⟨⟨_, _, rfl, pr2 hM, hPt ht hP⟩, hS.F ht⟩) hS.2.2 dX5_put_137
        · have hM := it_n e16 hM
          refine lv_aload_n hx hb dX5_put_84 rfl (lv_at hl 0 rfl) ?_
          refine gget (v := .int (c3.1 0 3)) hx hb hts i5 hown hK1 hP 0 rfl rfl 16 (by decide) f75 rfl rfl dX5_put_85 ?_
          refine lv_if_ne (tgt := 136) hx hb dX5_put_88 (by decide) (fun e15 => ?_) (fun e15 => ?_)
          · have hM := it_n e15 hM
            refine lv_iconst (v := 1) hx hb dX5_put_136 (by decide) ?_
            exact W.iret hx hb hr (fun t ht hW => ⟨⟨_, _, rfl, pr2 hM, hPt ht hP⟩, hS.F ht⟩) hS.2.2 dX5_put_137
          · have hM := it_p e15 hM
            refine lv_aload_n hx hb dX5_put_91 rfl (lv_at hl 0 rfl) ?_
            refine lv_iload_n hx hb dX5_put_92 rfl (lv_at hl 1 rfl) ?_
            obtain ⟨r8, h7, hM⟩ := bd1_some sm_ne hM
            refine gCi (gV (As := [.int v1]) (rest := []) ⟨hx, hb, hml, hown, hts⟩ (kX5_isLogged l dC dI ad cA hap _ c3 v1 _ h7) (cwV 1 hts gX5_put_X5_isLogged rfl rfl rfl (by decide +kernel) ⟨Nat.le_of_ble_eq_true rfl, Nat.le_of_ble_eq_true rfl⟩) (kM_st _ _) hK hP (va_recv hK1 hP (ci := 5) (q0 := 0) rfl rfl) rfl hl.1 rfl (Nat.le_of_ble_eq_true rfl) dX5_put_93 ⟨Nat.zero_le _, Nat.zero_le _⟩) hS (fun H locs hP hS => ?_)
            refine lv_if_ne (tgt := 136) hx hb dX5_put_96 (by decide) (fun e14 => ?_) (fun e14 => ?_)
            · have hM := it_n e14 hM
              refine lv_iconst (v := 1) hx hb dX5_put_136 (by decide) ?_
              exact W.iret hx hb hr (fun t ht hW => ⟨⟨_, _, rfl, pr2 hM, hPt ht hP⟩, hS.F ht⟩) hS.2.2 dX5_put_137
            · have hM := it_p e14 hM
              refine lv_aload_n hx hb dX5_put_99 rfl (lv_at hl 0 rfl) ?_
              refine gget (v := .int (c3.1 0 2)) hx hb hts i5 hown hK1 hP 0 rfl rfl 15 (by decide) f72 rfl rfl dX5_put_100 ?_
              refine lv_bipush (v := 12) hx hb dX5_put_103 (by decide) ?_
              refine lv_icmp_ne (tgt := 116) hx hb dX5_put_105 (by decide) (fun e13 => ?_) (fun e13 => ?_)
              · have hM := it_n e13 hM
                refine lv_aload_n hx hb dX5_put_116 rfl (lv_at hl 0 rfl) ?_
                refine gget (v := .ref (ad 13)) hx hb hts i5 hown hK1 hP 0 rfl rfl 14 (by decide) f51 rfl rfl dX5_put_117 ?_
                refine lv_aload_n hx hb dX5_put_120 rfl (lv_at hl 0 rfl) ?_
                refine gget (v := .int (c3.1 0 2)) hx hb hts i5 hown hK1 hP 0 rfl rfl 15 (by decide) f72 rfl rfl dX5_put_121 ?_
                refine lv_iload_n hx hb dX5_put_124 rfl (lv_at hl 1 rfl) ?_
                obtain ⟨h10, c9, hc9, hM⟩ := stA_some sm_ne hM
                refine gast (w := wM ad cA) (c := c3) (c1 := c9) hx hb hK1 hP (hD c3) hS 13 12 rfl rfl h10 (by rw [hc9]; rfl) dX5_put_125 (fun H locs hP hS => ?_)
                refine lv_aload_n hx hb dX5_put_126 rfl (lv_at hl 0 rfl) ?_
                refine lv_dup hx hb dX5_put_127 rfl ?_
                refine gget (v := .int (c9.1 0 2)) hx hb hts i5 hown hK1 hP 0 rfl rfl 15 (by decide) f72 rfl rfl dX5_put_128 ?_
                refine lv_iconst (v := 1) hx hb dX5_put_131 (by decide) ?_
                refine lv_iadd hx hb dX5_put_132 ?_
                obtain ⟨c11, hc11, hM⟩ := pfA_some hM
                refine gput (w := wM ad cA) (c := c9) (c1 := c11) (v := .int ((c9.1 0 2) + 1)) hx hb hts i5 tyX5 tyX5_ok nmX5 hown hK1 hP (hD c9) hS 0 rfl rfl 15 (by decide) f72 rfl rfl rfl rfl (Nat.le_of_ble_eq_true rfl) (by rw [hc11]; rfl) dX5_put_133 (fun H locs hP hS => ?_)
                refine lv_iconst (v := 1) hx hb dX5_put_136 (by decide) ?_
                exact W.iret hx hb hr (fun t ht hW => ⟨⟨_, _, rfl, pr2 hM, hPt ht hP⟩, hS.F ht⟩) hS.2.2 dX5_put_137
              · have hM := it_p e13 hM
                refine lv_aload_n hx hb dX5_put_108 rfl (lv_at hl 0 rfl) ?_
                refine lv_iconst (v := 1) hx hb dX5_put_109 (by decide) ?_
                obtain ⟨c12, hc12, hM⟩ := pfA_some hM
                refine gput (w := wM ad cA) (c := c3) (c1 := c12) (v := .int 1) hx hb hts i5 tyX5 tyX5_ok nmX5 hown hK1 hP (hD c3) hS 0 rfl rfl 16 (by decide) f75 rfl rfl rfl rfl (Nat.le_of_ble_eq_true rfl) (by rw [hc12]; rfl) dX5_put_110 (fun H locs hP hS => ?_)
                refine lv_goto (tgt := 136) hx hb dX5_put_113 (by decide) ?_
                refine lv_iconst (v := 1) hx hb dX5_put_136 (by decide) ?_
                exact W.iret hx hb hr (fun t ht hW => ⟨⟨_, _, rfl, pr2 hM, hPt ht hP⟩, hS.F ht⟩) hS.2.2 dX5_put_137
      · have hM := it_p e19 hM
        refine lv_aload_n hx hb dX5_put_60 rfl (lv_at hl 0 rfl) ?_
        refine gget (v := .ref (ad 3)) hx hb hts i5 hown hK1 hP 0 rfl rfl 3 (by decide) f20 rfl rfl dX5_put_61 ?_
        refine lv_iload_n hx hb dX5_put_64 rfl (lv_at hl 1 rfl) ?_
        refine lv_iload_n hx hb dX5_put_65 rfl (lv_at hl 2 rfl) ?_
        refine lv_iadd hx hb dX5_put_66 ?_
        refine lv_bipush (v := 64) hx hb dX5_put_67 (by decide) ?_
        refine lv_idiv hx hb dX5_put_69 (by decide) ?_
        refine lv_iconst (v := 1) hx hb dX5_put_70 (by decide) ?_
        obtain ⟨h18, h18z, c17, hc17, hM⟩ := stZ_some sm_ne hM
        refine gzst (w := wM ad cA) (c := c3) (c1 := c17) hx hb hK1 hP (hD c3) hS 3 2 rfl rfl h18 h18z (by rw [hc17]; rfl) dX5_put_71 (fun H locs hP hS => ?_)
        refine lv_goto (tgt := 136) hx hb dX5_put_72 (by decide) ?_
        refine lv_iconst (v := 1) hx hb dX5_put_136 (by decide) ?_
        exact W.iret hx hb hr (fun t ht hW => ⟨⟨_, _, rfl, pr2 hM, hPt ht hP⟩, hS.F ht⟩) hS.2.2 dX5_put_137
    · have hM := it_p e20 hM
      refine lv_bipush (v := (-12)) hx hb dX5_put_40 (by decide) ?_
      exact W.iret hx hb hr (fun t ht hW => ⟨⟨_, _, rfl, pr2 hM, hPt ht hP⟩, hS.F ht⟩) hS.2.2 dX5_put_42
  have hl := lv_entry [.ref (ad 0), .int a1, .int a2, .int a3] (n := 4) (Nat.le_of_ble_eq_true rfl)
  rw [lg_entry_eq]
  generalize (lg_sl [.ref (ad 0), .int a1, .int a2, .int a3] ++ List.replicate (4 - (lg_sl [.ref (ad 0), .int a1, .int a2, .int a3]).length) Slot.unset).toArray = ls at hl ⊢
  have hl : lv_has ls 4 [(0, .ref (ad 0)), (1, .int a1), (2, .int a2), (3, .int a3)] := hl
  have hP : va_P (dC, dI) vwCl (wM ad cA c) s.heap := hP
  unfold pX5_put at hM
  refine lv_aload_n hx hb dX5_put_0 rfl (lv_at hl 0 rfl) ?_
  refine lv_iload_n hx hb dX5_put_1 rfl (lv_at hl 1 rfl) ?_
  obtain ⟨r22, h21, hM⟩ := bd1_some sm_ne hM
  refine gCi (gV (As := [.int a1]) (rest := []) ⟨hx, hb, hml, hown, hts⟩ (kX5_isThing l dC dI ad cA hap _ c a1 _ h21) (cwV 1 hts gX5_put_X5_isThing rfl rfl rfl (by decide +kernel) ⟨Nat.le_of_ble_eq_true rfl, Nat.le_of_ble_eq_true rfl⟩) (kM_st _ _) hK hP (va_recv hK1 hP (ci := 5) (q0 := 0) rfl rfl) rfl hl.1 rfl (Nat.le_of_ble_eq_true rfl) dX5_put_2 ⟨Nat.zero_le _, Nat.zero_le _⟩) hS (fun H locs hP hS => ?_)
  refine lv_if_eq (tgt := 21) hx hb dX5_put_5 (by decide) (fun e27 => ?_) (fun e27 => ?_)
  · have hM := it_p e27 hM
    refine lv_bipush (v := (-101)) hx hb dX5_put_21 (by decide) ?_
    exact W.iret hx hb hr (fun t ht hW => ⟨⟨_, _, rfl, pr2 hM, hPt ht hP⟩, hS.F ht⟩) hS.2.2 dX5_put_23
  · have hM := it_n e27 hM
    refine lv_iload_n hx hb dX5_put_8 rfl (lv_at hl 3 rfl) ?_
    refine lv_iconst (v := (-1)) hx hb dX5_put_9 (by decide) ?_
    refine lv_icmp_eq (tgt := 24) hx hb dX5_put_10 (by decide) (fun e26 => ?_) (fun e26 => ?_)
    · have hM := it_p e26 hM
      exact L24 _ _ _ _ _ _ _ hM hP hS (lv_sub hl [0, 1, 2, 3] rfl)
    · have hM := it_n e26 hM
      refine lv_aload_n hx hb dX5_put_13 rfl (lv_at hl 0 rfl) ?_
      refine lv_iload_n hx hb dX5_put_14 rfl (lv_at hl 3 rfl) ?_
      obtain ⟨r24, h23, hM⟩ := bd1_some sm_ne hM
      refine gCi (gV (As := [.int a3]) (rest := []) ⟨hx, hb, hml, hown, hts⟩ (kX5_isThing l dC dI ad cA hap _ c a3 _ h23) (cwV 1 hts gX5_put_X5_isThing rfl rfl rfl (by decide +kernel) ⟨Nat.le_of_ble_eq_true rfl, Nat.le_of_ble_eq_true rfl⟩) (kM_st _ _) hK hP (va_recv hK1 hP (ci := 5) (q0 := 0) rfl rfl) rfl hl.1 rfl (Nat.le_of_ble_eq_true rfl) dX5_put_15 ⟨Nat.zero_le _, Nat.zero_le _⟩) hS (fun H locs hP hS => ?_)
      refine lv_if_ne (tgt := 24) hx hb dX5_put_18 (by decide) (fun e25 => ?_) (fun e25 => ?_)
      · have hM := it_n e25 hM
        exact L24 _ _ _ _ _ _ _ hM hP hS (lv_sub hl [0, 1, 2, 3] rfl)
      · have hM := it_p e25 hM
        refine lv_bipush (v := (-101)) hx hb dX5_put_21 (by decide) ?_
        exact W.iret hx hb hr (fun t ht hW => ⟨⟨_, _, rfl, pr2 hM, hPt ht hP⟩, hS.F ht⟩) hS.2.2 dX5_put_23
set_option maxHeartbeats 4000000 in
set_option maxRecDepth 100000 in
theorem kX5_link (l : Launch) (dC : Nat → ClassId) (dI : Nat → Nat → Nat) (ad : Nat → Nat) (cA : Nat → ClassId) (hap : apart 15 ad) (sz : Nat) (c : HS) (a1 : Int32) (a2 : Int32) (r0 : Int32) (hM : pX5_link c a1 a2 = some r0) : Met l yX5_link wsX5_link ({ frames := 2, cells := 0, slots := 0, locals := 43 }) (gP (dC, dI) (wM ad cA) (kM (dC, dI) cA) c sz [.ref (ad 0), .int a1, .int a2]) (gQi (dC, dI) (wM ad cA) (fA 15 ad sz) r0 c) 0 0 (fA 15 ad sz) := by
  refine Met.ofW (cc := cX5_link) (maxL := 3) (ret := (some .int)) (by decide) rfl ?_
  intro p e s m args below meth cd s₁ B hml hv
  obtain ⟨rfl, rfl, hP, hK⟩ := hv
  have hx := B.exec
  have hb := B.bytes
  have hr := B.returns
  have hts := atoms_spec (ws := wsX5_link) B.pre
  have hown : s.vm.findClass RX5 = some m.cls := findClass_of_methodNamed B.named
  have hlocks := B.notSynchronized
  have hK1 : va_K (dC, dI) vwCl (tM cA) s := hK
  have hD : ∀ c, va_D (fA 15 ad s.heap.size) (wM ad cA c) := fun c => dM_ok hap cA c _
  have hS : va_S (fA 15 ad s.heap.size) s.heap s.heap [] := va_S.rf
  have i5 : ∀ w ∈ u_ws RX5 TX5 27, w ∈ wsX5_link := by decide +kernel
  have f27 := hts (.fieldLink RX5 27 "StickyHeapModel" "words" "[I") (by decide +kernel)
  have f39 := hts (.fieldLink RX5 39 "StickyHeapModel" "references" "[I") (by decide +kernel)
  have hl := lv_entry [.ref (ad 0), .int a1, .int a2] (n := 3) (Nat.le_of_ble_eq_true rfl)
  rw [lg_entry_eq]
  generalize (lg_sl [.ref (ad 0), .int a1, .int a2] ++ List.replicate (3 - (lg_sl [.ref (ad 0), .int a1, .int a2]).length) Slot.unset).toArray = ls at hl ⊢
  have hl : lv_has ls 3 [(0, .ref (ad 0)), (1, .int a1), (2, .int a2)] := hl
  have hP : va_P (dC, dI) vwCl (wM ad cA c) s.heap := hP
  unfold pX5_link at hM
  refine lv_aload_n hx hb dX5_link_0 rfl (lv_at hl 0 rfl) ?_
  refine lv_iload_n hx hb dX5_link_1 rfl (lv_at hl 1 rfl) ?_
  obtain ⟨r2, h1, hM⟩ := bd1_some sm_ne hM
  refine gCi (gV (As := [.int a1]) (rest := []) ⟨hx, hb, hml, hown, hts⟩ (kX5_isThing l dC dI ad cA hap _ c a1 _ h1) (cwV 1 hts gX5_link_X5_isThing rfl rfl rfl (by decide +kernel) ⟨Nat.le_of_ble_eq_true rfl, Nat.le_of_ble_eq_true rfl⟩) (kM_st _ _) hK hP (va_recv hK1 hP (ci := 5) (q0 := 0) rfl rfl) rfl hl.1 rfl (Nat.le_of_ble_eq_true rfl) dX5_link_2 ⟨Nat.zero_le _, Nat.zero_le _⟩) hS (fun H locs hP hS => ?_)
  refine lv_if_ne (tgt := 11) hx hb dX5_link_5 (by decide) (fun e8 => ?_) (fun e8 => ?_)
  · have hM := it_n e8 hM
    refine lv_iload_n hx hb dX5_link_11 rfl (lv_at hl 2 rfl) ?_
    refine lv_iconst (v := 0) hx hb dX5_link_12 (by decide) ?_
    refine lv_aload_n hx hb dX5_link_13 rfl (lv_at hl 0 rfl) ?_
    refine gget (v := .ref (ad 9)) hx hb hts i5 hown hK1 hP 0 rfl rfl 9 (by decide) f39 rfl rfl dX5_link_14 ?_
    refine lv_iload_n hx hb dX5_link_17 rfl (lv_at hl 1 rfl) ?_
    obtain ⟨h4, x3, hx3, hM⟩ := ldA_some sm_ne hM
    refine gald hx hb hK1 hP 9 8 rfl rfl h4 hx3 dX5_link_18 ?_
    refine lv_iconst (v := 1) hx hb dX5_link_19 (by decide) ?_
    refine lv_isub hx hb dX5_link_20 ?_
    refine gCi (gS (As := [.int a2, .int 0, .int (x3 - 1)]) (rest := []) ⟨hx, hb, hml, hown, hts⟩ (kX5_in l dC dI ad cA hap _ c a2 0 (x3 - 1) _ rfl) (va_cwS 3 hts gX5_link_X5_in rfl rfl rfl (by decide +kernel) ⟨Nat.le_of_ble_eq_true rfl, Nat.le_of_ble_eq_true rfl⟩) (kM_st _ _) hK hP rfl hl.1 rfl (Nat.le_of_ble_eq_true rfl) dX5_link_21 ⟨Nat.zero_le _, Nat.zero_le _⟩) hS (fun H locs hP hS => ?_)
    refine lv_if_eq (tgt := 38) hx hb dX5_link_24 (by decide) (fun e7 => ?_) (fun e7 => ?_)
    · have hM := it_p e7 hM
      refine lv_bipush (v := (-12)) hx hb dX5_link_38 (by decide) ?_
      exact W.iret hx hb hr (fun t ht hW => ⟨⟨_, _, rfl, ⟨pr1 hM, rfl⟩, hPt ht hP⟩, hS.F ht⟩) hS.2.2 dX5_link_40
    · have hM := it_n e7 hM
      refine lv_aload_n hx hb dX5_link_27 rfl (lv_at hl 0 rfl) ?_
      refine gget (v := .ref (ad 5)) hx hb hts i5 hown hK1 hP 0 rfl rfl 5 (by decide) f27 rfl rfl dX5_link_28 ?_
      refine lv_iload_n hx hb dX5_link_31 rfl (lv_at hl 1 rfl) ?_
      refine lv_iload_n hx hb dX5_link_32 rfl (lv_at hl 2 rfl) ?_
      refine lv_iadd hx hb dX5_link_33 ?_
      obtain ⟨h6, x5, hx5, hM⟩ := ldA_some sm_ne hM
      refine gald hx hb hK1 hP 5 4 rfl rfl h6 hx5 dX5_link_34 ?_
      refine lv_goto (tgt := 40) hx hb dX5_link_35 (by decide) ?_
      exact W.iret hx hb hr (fun t ht hW => ⟨⟨_, _, rfl, ⟨pr1 hM, rfl⟩, hPt ht hP⟩, hS.F ht⟩) hS.2.2 dX5_link_40
  · have hM := it_p e8 hM
    refine lv_bipush (v := (-101)) hx hb dX5_link_8 (by decide) ?_
    exact W.iret hx hb hr (fun t ht hW => ⟨⟨_, _, rfl, ⟨pr1 hM, rfl⟩, hPt ht hP⟩, hS.F ht⟩) hS.2.2 dX5_link_10
set_option maxHeartbeats 4000000 in
set_option maxRecDepth 100000 in
theorem kX5_set (l : Launch) (dC : Nat → ClassId) (dI : Nat → Nat → Nat) (ad : Nat → Nat) (cA : Nat → ClassId) (hap : apart 15 ad) (sz : Nat) (c : HS) (a1 : Int32) (a2 : Int32) (a3 : Int32) (r0 : Int32) (c9 : HS) (hM : pX5_set c a1 a2 a3 = some (r0, c9)) : Met l yX5_set wsX5_set ({ frames := 2, cells := 0, slots := 0, locals := 43 }) (gP (dC, dI) (wM ad cA) (kM (dC, dI) cA) c sz [.ref (ad 0), .int a1, .int a2, .int a3]) (gQi (dC, dI) (wM ad cA) (fA 15 ad sz) r0 c9) 0 0 (fA 15 ad sz) := by
  refine Met.ofW (cc := cX5_set) (maxL := 4) (ret := (some .int)) (by decide) rfl ?_
  intro p e s m args below meth cd s₁ B hml hv
  obtain ⟨rfl, rfl, hP, hK⟩ := hv
  have hx := B.exec
  have hb := B.bytes
  have hr := B.returns
  have hts := atoms_spec (ws := wsX5_set) B.pre
  have hown : s.vm.findClass RX5 = some m.cls := findClass_of_methodNamed B.named
  have hlocks := B.notSynchronized
  have hK1 : va_K (dC, dI) vwCl (tM cA) s := hK
  have hD : ∀ c, va_D (fA 15 ad s.heap.size) (wM ad cA c) := fun c => dM_ok hap cA c _
  have hS : va_S (fA 15 ad s.heap.size) s.heap s.heap [] := va_S.rf
  have i5 : ∀ w ∈ u_ws RX5 TX5 27, w ∈ wsX5_set := by decide +kernel
  have f27 := hts (.fieldLink RX5 27 "StickyHeapModel" "words" "[I") (by decide +kernel)
  have f39 := hts (.fieldLink RX5 39 "StickyHeapModel" "references" "[I") (by decide +kernel)
  have hl := lv_entry [.ref (ad 0), .int a1, .int a2, .int a3] (n := 4) (Nat.le_of_ble_eq_true rfl)
  rw [lg_entry_eq]
  generalize (lg_sl [.ref (ad 0), .int a1, .int a2, .int a3] ++ List.replicate (4 - (lg_sl [.ref (ad 0), .int a1, .int a2, .int a3]).length) Slot.unset).toArray = ls at hl ⊢
  have hl : lv_has ls 4 [(0, .ref (ad 0)), (1, .int a1), (2, .int a2), (3, .int a3)] := hl
  have hP : va_P (dC, dI) vwCl (wM ad cA c) s.heap := hP
  unfold pX5_set at hM
  refine lv_aload_n hx hb dX5_set_0 rfl (lv_at hl 0 rfl) ?_
  refine lv_iload_n hx hb dX5_set_1 rfl (lv_at hl 1 rfl) ?_
  obtain ⟨r2, h1, hM⟩ := bd1_some sm_ne hM
  refine gCi (gV (As := [.int a1]) (rest := []) ⟨hx, hb, hml, hown, hts⟩ (kX5_isThing l dC dI ad cA hap _ c a1 _ h1) (cwV 1 hts gX5_set_X5_isThing rfl rfl rfl (by decide +kernel) ⟨Nat.le_of_ble_eq_true rfl, Nat.le_of_ble_eq_true rfl⟩) (kM_st _ _) hK hP (va_recv hK1 hP (ci := 5) (q0 := 0) rfl rfl) rfl hl.1 rfl (Nat.le_of_ble_eq_true rfl) dX5_set_2 ⟨Nat.zero_le _, Nat.zero_le _⟩) hS (fun H locs hP hS => ?_)
  refine lv_if_ne (tgt := 11) hx hb dX5_set_5 (by decide) (fun e10 => ?_) (fun e10 => ?_)
  · have hM := it_n e10 hM
    refine lv_iload_n hx hb dX5_set_11 rfl (lv_at hl 2 rfl) ?_
    refine lv_aload_n hx hb dX5_set_12 rfl (lv_at hl 0 rfl) ?_
    refine gget (v := .ref (ad 9)) hx hb hts i5 hown hK1 hP 0 rfl rfl 9 (by decide) f39 rfl rfl dX5_set_13 ?_
    refine lv_iload_n hx hb dX5_set_16 rfl (lv_at hl 1 rfl) ?_
    obtain ⟨h4, x3, hx3, hM⟩ := ldA_some sm_ne hM
    refine gald hx hb hK1 hP 9 8 rfl rfl h4 hx3 dX5_set_17 ?_
    refine lv_aload_n hx hb dX5_set_18 rfl (lv_at hl 0 rfl) ?_
    refine lv_iload_n hx hb dX5_set_19 rfl (lv_at hl 1 rfl) ?_
    obtain ⟨r6, h5, hM⟩ := bd1_some sm_ne hM
    refine gCi (gV (As := [.int a1]) (rest := [.int x3, .int a2]) ⟨hx, hb, hml, hown, hts⟩ (kX5_size l dC dI ad cA hap _ c a1 _ h5) (cwV 1 hts gX5_set_X5_size rfl rfl rfl (by decide +kernel) ⟨Nat.le_of_ble_eq_true rfl, Nat.le_of_ble_eq_true rfl⟩) (kM_st _ _) hK hP (va_recv hK1 hP (ci := 5) (q0 := 0) rfl rfl) rfl hl.1 rfl (Nat.le_of_ble_eq_true rfl) dX5_set_20 ⟨Nat.zero_le _, Nat.zero_le _⟩) hS (fun H locs hP hS => ?_)
    refine lv_iconst (v := 1) hx hb dX5_set_23 (by decide) ?_
    refine lv_isub hx hb dX5_set_24 ?_
    refine gCi (gS (As := [.int a2, .int x3, .int (r6 - 1)]) (rest := []) ⟨hx, hb, hml, hown, hts⟩ (kX5_in l dC dI ad cA hap _ c a2 x3 (r6 - 1) _ rfl) (va_cwS 3 hts gX5_set_X5_in rfl rfl rfl (by decide +kernel) ⟨Nat.le_of_ble_eq_true rfl, Nat.le_of_ble_eq_true rfl⟩) (kM_st _ _) hK hP rfl hl.1 rfl (Nat.le_of_ble_eq_true rfl) dX5_set_25 ⟨Nat.zero_le _, Nat.zero_le _⟩) hS (fun H locs hP hS => ?_)
    refine lv_if_ne (tgt := 34) hx hb dX5_set_28 (by decide) (fun e9 => ?_) (fun e9 => ?_)
    · have hM := it_n e9 hM
      refine lv_aload_n hx hb dX5_set_34 rfl (lv_at hl 0 rfl) ?_
      refine gget (v := .ref (ad 5)) hx hb hts i5 hown hK1 hP 0 rfl rfl 5 (by decide) f27 rfl rfl dX5_set_35 ?_
      refine lv_iload_n hx hb dX5_set_38 rfl (lv_at hl 1 rfl) ?_
      refine lv_iload_n hx hb dX5_set_39 rfl (lv_at hl 2 rfl) ?_
      refine lv_iadd hx hb dX5_set_40 ?_
      refine lv_iload_n hx hb dX5_set_41 rfl (lv_at hl 3 rfl) ?_
      obtain ⟨h8, c7, hc7, hM⟩ := stA_some sm_ne hM
      refine gast (w := wM ad cA) (c := c) (c1 := c7) hx hb hK1 hP (hD c) hS 5 4 rfl rfl h8 (by rw [hc7]; rfl) dX5_set_42 (fun H locs hP hS => ?_)
      refine lv_iconst (v := 1) hx hb dX5_set_43 (by decide) ?_
      exact W.iret hx hb hr (fun t ht hW => ⟨⟨_, _, rfl, pr2 hM, hPt ht hP⟩, hS.F ht⟩) hS.2.2 dX5_set_44
    · have hM := it_p e9 hM
      refine lv_bipush (v := (-12)) hx hb dX5_set_31 (by decide) ?_
      exact W.iret hx hb hr (fun t ht hW => ⟨⟨_, _, rfl, pr2 hM, hPt ht hP⟩, hS.F ht⟩) hS.2.2 dX5_set_33
  · have hM := it_p e10 hM
    refine lv_bipush (v := (-101)) hx hb dX5_set_8 (by decide) ?_
    exact W.iret hx hb hr (fun t ht hW => ⟨⟨_, _, rfl, pr2 hM, hPt ht hP⟩, hS.F ht⟩) hS.2.2 dX5_set_10
set_option maxHeartbeats 4000000 in
set_option maxRecDepth 100000 in
theorem kX5_get (l : Launch) (dC : Nat → ClassId) (dI : Nat → Nat → Nat) (ad : Nat → Nat) (cA : Nat → ClassId) (hap : apart 15 ad) (sz : Nat) (c : HS) (a1 : Int32) (a2 : Int32) (r0 : Int32) (c9 : HS) (hM : pX5_get c a1 a2 = some (r0, c9)) : Met l yX5_get wsX5_get ({ frames := 2, cells := 0, slots := 0, locals := 43 }) (gP (dC, dI) (wM ad cA) (kM (dC, dI) cA) c sz [.ref (ad 0), .int a1, .int a2]) (gQi (dC, dI) (wM ad cA) (fA 15 ad sz) r0 c9) 0 0 (fA 15 ad sz) := by
  refine Met.ofW (cc := cX5_get) (maxL := 3) (ret := (some .int)) (by decide) rfl ?_
  intro p e s m args below meth cd s₁ B hml hv
  obtain ⟨rfl, rfl, hP, hK⟩ := hv
  have hx := B.exec
  have hb := B.bytes
  have hr := B.returns
  have hts := atoms_spec (ws := wsX5_get) B.pre
  have hown : s.vm.findClass RX5 = some m.cls := findClass_of_methodNamed B.named
  have hlocks := B.notSynchronized
  have hK1 : va_K (dC, dI) vwCl (tM cA) s := hK
  have hD : ∀ c, va_D (fA 15 ad s.heap.size) (wM ad cA c) := fun c => dM_ok hap cA c _
  have hS : va_S (fA 15 ad s.heap.size) s.heap s.heap [] := va_S.rf
  have i5 : ∀ w ∈ u_ws RX5 TX5 27, w ∈ wsX5_get := by decide +kernel
  have f27 := hts (.fieldLink RX5 27 "StickyHeapModel" "words" "[I") (by decide +kernel)
  have f39 := hts (.fieldLink RX5 39 "StickyHeapModel" "references" "[I") (by decide +kernel)
  have f78 := hts (.fieldLink RX5 78 "StickyHeapModel" "seen" "I") (by decide +kernel)
  have hl := lv_entry [.ref (ad 0), .int a1, .int a2] (n := 3) (Nat.le_of_ble_eq_true rfl)
  rw [lg_entry_eq]
  generalize (lg_sl [.ref (ad 0), .int a1, .int a2] ++ List.replicate (3 - (lg_sl [.ref (ad 0), .int a1, .int a2]).length) Slot.unset).toArray = ls at hl ⊢
  have hl : lv_has ls 3 [(0, .ref (ad 0)), (1, .int a1), (2, .int a2)] := hl
  have hP : va_P (dC, dI) vwCl (wM ad cA c) s.heap := hP
  unfold pX5_get at hM
  refine lv_aload_n hx hb dX5_get_0 rfl (lv_at hl 0 rfl) ?_
  refine lv_iload_n hx hb dX5_get_1 rfl (lv_at hl 1 rfl) ?_
  obtain ⟨r2, h1, hM⟩ := bd1_some sm_ne hM
  refine gCi (gV (As := [.int a1]) (rest := []) ⟨hx, hb, hml, hown, hts⟩ (kX5_isThing l dC dI ad cA hap _ c a1 _ h1) (cwV 1 hts gX5_get_X5_isThing rfl rfl rfl (by decide +kernel) ⟨Nat.le_of_ble_eq_true rfl, Nat.le_of_ble_eq_true rfl⟩) (kM_st _ _) hK hP (va_recv hK1 hP (ci := 5) (q0 := 0) rfl rfl) rfl hl.1 rfl (Nat.le_of_ble_eq_true rfl) dX5_get_2 ⟨Nat.zero_le _, Nat.zero_le _⟩) hS (fun H locs hP hS => ?_)
  refine lv_if_ne (tgt := 11) hx hb dX5_get_5 (by decide) (fun e11 => ?_) (fun e11 => ?_)
  · have hM := it_n e11 hM
    refine lv_iload_n hx hb dX5_get_11 rfl (lv_at hl 2 rfl) ?_
    refine lv_aload_n hx hb dX5_get_12 rfl (lv_at hl 0 rfl) ?_
    refine gget (v := .ref (ad 9)) hx hb hts i5 hown hK1 hP 0 rfl rfl 9 (by decide) f39 rfl rfl dX5_get_13 ?_
    refine lv_iload_n hx hb dX5_get_16 rfl (lv_at hl 1 rfl) ?_
    obtain ⟨h4, x3, hx3, hM⟩ := ldA_some sm_ne hM
    refine gald hx hb hK1 hP 9 8 rfl rfl h4 hx3 dX5_get_17 ?_
    refine lv_aload_n hx hb dX5_get_18 rfl (lv_at hl 0 rfl) ?_
    refine lv_iload_n hx hb dX5_get_19 rfl (lv_at hl 1 rfl) ?_
    obtain ⟨r6, h5, hM⟩ := bd1_some sm_ne hM
    refine gCi (gV (As := [.int a1]) (rest := [.int x3, .int a2]) ⟨hx, hb, hml, hown, hts⟩ (kX5_size l dC dI ad cA hap _ c a1 _ h5) (cwV 1 hts gX5_get_X5_size rfl rfl rfl (by decide +kernel) ⟨Nat.le_of_ble_eq_true rfl, Nat.le_of_ble_eq_true rfl⟩) (kM_st _ _) hK hP (va_recv hK1 hP (ci := 5) (q0 := 0) rfl rfl) rfl hl.1 rfl (Nat.le_of_ble_eq_true rfl) dX5_get_20 ⟨Nat.zero_le _, Nat.zero_le _⟩) hS (fun H locs hP hS => ?_)
    refine lv_iconst (v := 1) hx hb dX5_get_23 (by decide) ?_
    refine lv_isub hx hb dX5_get_24 ?_
    refine gCi (gS (As := [.int a2, .int x3, .int (r6 - 1)]) (rest := []) ⟨hx, hb, hml, hown, hts⟩ (kX5_in l dC dI ad cA hap _ c a2 x3 (r6 - 1) _ rfl) (va_cwS 3 hts gX5_get_X5_in rfl rfl rfl (by decide +kernel) ⟨Nat.le_of_ble_eq_true rfl, Nat.le_of_ble_eq_true rfl⟩) (kM_st _ _) hK hP rfl hl.1 rfl (Nat.le_of_ble_eq_true rfl) dX5_get_25 ⟨Nat.zero_le _, Nat.zero_le _⟩) hS (fun H locs hP hS => ?_)
    refine lv_if_ne (tgt := 34) hx hb dX5_get_28 (by decide) (fun e10 => ?_) (fun e10 => ?_)
    · have hM := it_n e10 hM
      refine lv_aload_n hx hb dX5_get_34 rfl (lv_at hl 0 rfl) ?_
      refine lv_aload_n hx hb dX5_get_35 rfl (lv_at hl 0 rfl) ?_
      refine gget (v := .ref (ad 5)) hx hb hts i5 hown hK1 hP 0 rfl rfl 5 (by decide) f27 rfl rfl dX5_get_36 ?_
      refine lv_iload_n hx hb dX5_get_39 rfl (lv_at hl 1 rfl) ?_
      refine lv_iload_n hx hb dX5_get_40 rfl (lv_at hl 2 rfl) ?_
      refine lv_iadd hx hb dX5_get_41 ?_
      obtain ⟨h8, x7, hx7, hM⟩ := ldA_some sm_ne hM
      refine gald hx hb hK1 hP 5 4 rfl rfl h8 hx7 dX5_get_42 ?_
      obtain ⟨c9, hc9, hM⟩ := pfA_some hM
      refine gput (w := wM ad cA) (c := c) (c1 := c9) (v := .int x7) hx hb hts i5 tyX5 tyX5_ok nmX5 hown hK1 hP (hD c) hS 0 rfl rfl 19 (by decide) f78 rfl rfl rfl rfl (Nat.le_of_ble_eq_true rfl) (by rw [hc9]; rfl) dX5_get_43 (fun H locs hP hS => ?_)
      refine lv_iconst (v := 1) hx hb dX5_get_46 (by decide) ?_
      exact W.iret hx hb hr (fun t ht hW => ⟨⟨_, _, rfl, pr2 hM, hPt ht hP⟩, hS.F ht⟩) hS.2.2 dX5_get_47
    · have hM := it_p e10 hM
      refine lv_bipush (v := (-12)) hx hb dX5_get_31 (by decide) ?_
      exact W.iret hx hb hr (fun t ht hW => ⟨⟨_, _, rfl, pr2 hM, hPt ht hP⟩, hS.F ht⟩) hS.2.2 dX5_get_33
  · have hM := it_p e11 hM
    refine lv_bipush (v := (-101)) hx hb dX5_get_8 (by decide) ?_
    exact W.iret hx hb hr (fun t ht hW => ⟨⟨_, _, rfl, pr2 hM, hPt ht hP⟩, hS.F ht⟩) hS.2.2 dX5_get_10
set_option maxHeartbeats 4000000 in
set_option maxRecDepth 100000 in
theorem kX5_seen (l : Launch) (dC : Nat → ClassId) (dI : Nat → Nat → Nat) (ad : Nat → Nat) (cA : Nat → ClassId) (hap : apart 15 ad) (sz : Nat) (c : HS) (r0 : Int32) (hM : pX5_seen c = r0) : Met l yX5_seen wsX5_seen ({ frames := 0, cells := 0, slots := 0, locals := 0 }) (gP (dC, dI) (wM ad cA) (kM (dC, dI) cA) c sz [.ref (ad 0)]) (gQi (dC, dI) (wM ad cA) (fA 15 ad sz) r0 c) 0 0 (fA 15 ad sz) := by
  refine Met.ofW (cc := cX5_seen) (maxL := 1) (ret := (some .int)) (by decide) rfl ?_
  intro p e s m args below meth cd s₁ B hml hv
  obtain ⟨rfl, rfl, hP, hK⟩ := hv
  have hx := B.exec
  have hb := B.bytes
  have hr := B.returns
  have hts := atoms_spec (ws := wsX5_seen) B.pre
  have hown : s.vm.findClass RX5 = some m.cls := findClass_of_methodNamed B.named
  have hlocks := B.notSynchronized
  have hK1 : va_K (dC, dI) vwCl (tM cA) s := hK
  have hD : ∀ c, va_D (fA 15 ad s.heap.size) (wM ad cA c) := fun c => dM_ok hap cA c _
  have hS : va_S (fA 15 ad s.heap.size) s.heap s.heap [] := va_S.rf
  have i5 : ∀ w ∈ u_ws RX5 TX5 27, w ∈ wsX5_seen := by decide +kernel
  have f78 := hts (.fieldLink RX5 78 "StickyHeapModel" "seen" "I") (by decide +kernel)
  have hl := lv_entry [.ref (ad 0)] (n := 1) (Nat.le_of_ble_eq_true rfl)
  rw [lg_entry_eq]
  generalize (lg_sl [.ref (ad 0)] ++ List.replicate (1 - (lg_sl [.ref (ad 0)]).length) Slot.unset).toArray = ls at hl ⊢
  have hl : lv_has ls 1 [(0, .ref (ad 0))] := hl
  have hP : va_P (dC, dI) vwCl (wM ad cA c) s.heap := hP
  unfold pX5_seen at hM
  refine lv_aload_n hx hb dX5_seen_0 rfl (lv_at hl 0 rfl) ?_
  refine gget (v := .int (c.1 0 6)) hx hb hts i5 hown hK1 hP 0 rfl rfl 19 (by decide) f78 rfl rfl dX5_seen_1 ?_
  exact W.iret hx hb hr (fun t ht hW => ⟨⟨_, _, rfl, ⟨hM, rfl⟩, hPt ht hP⟩, hS.F ht⟩) hS.2.2 dX5_seen_4
set_option maxHeartbeats 4000000 in
set_option maxRecDepth 100000 in
theorem kX5_about (l : Launch) (dC : Nat → ClassId) (dI : Nat → Nat → Nat) (ad : Nat → Nat) (cA : Nat → ClassId) (hap : apart 15 ad) (sz : Nat) (c : HS) (a1 : Int32) (a2 : Int32) (r0 : Int32) (hM : pX5_about c a1 a2 = some r0) : Met l yX5_about wsX5_about ({ frames := 2, cells := 0, slots := 0, locals := 46 }) (gP (dC, dI) (wM ad cA) (kM (dC, dI) cA) c sz [.ref (ad 0), .int a1, .int a2]) (gQi (dC, dI) (wM ad cA) (fA 15 ad sz) r0 c) 0 0 (fA 15 ad sz) := by
  refine Met.ofW (cc := cX5_about) (maxL := 4) (ret := (some .int)) (by decide) rfl ?_
  intro p e s m args below meth cd s₁ B hml hv
  obtain ⟨rfl, rfl, hP, hK⟩ := hv
  have hx := B.exec
  have hb := B.bytes
  have hr := B.returns
  have hts := atoms_spec (ws := wsX5_about) B.pre
  have hown : s.vm.findClass RX5 = some m.cls := findClass_of_methodNamed B.named
  have hlocks := B.notSynchronized
  have hK1 : va_K (dC, dI) vwCl (tM cA) s := hK
  have hD : ∀ c, va_D (fA 15 ad s.heap.size) (wM ad cA c) := fun c => dM_ok hap cA c _
  have hS : va_S (fA 15 ad s.heap.size) s.heap s.heap [] := va_S.rf
  have i5 : ∀ w ∈ u_ws RX5 TX5 27, w ∈ wsX5_about := by decide +kernel
  have f33 := hts (.fieldLink RX5 33 "StickyHeapModel" "isOld" "[Z") (by decide +kernel)
  have f39 := hts (.fieldLink RX5 39 "StickyHeapModel" "references" "[I") (by decide +kernel)
  have f42 := hts (.fieldLink RX5 42 "StickyHeapModel" "numbers" "[I") (by decide +kernel)
  have hl := lv_entry [.ref (ad 0), .int a1, .int a2] (n := 4) (Nat.le_of_ble_eq_true rfl)
  rw [lg_entry_eq]
  generalize (lg_sl [.ref (ad 0), .int a1, .int a2] ++ List.replicate (4 - (lg_sl [.ref (ad 0), .int a1, .int a2]).length) Slot.unset).toArray = ls at hl ⊢
  have hl : lv_has ls 4 [(0, .ref (ad 0)), (1, .int a1), (2, .int a2)] := hl
  have hP : va_P (dC, dI) vwCl (wM ad cA c) s.heap := hP
  unfold pX5_about at hM
  refine lv_aload_n hx hb dX5_about_0 rfl (lv_at hl 0 rfl) ?_
  refine lv_iload_n hx hb dX5_about_1 rfl (lv_at hl 1 rfl) ?_
  obtain ⟨r2, h1, hM⟩ := bd1_some sm_ne hM
  refine gCi (gV (As := [.int a1]) (rest := []) ⟨hx, hb, hml, hown, hts⟩ (kX5_isThing l dC dI ad cA hap _ c a1 _ h1) (cwV 1 hts gX5_about_X5_isThing rfl rfl rfl (by decide +kernel) ⟨Nat.le_of_ble_eq_true rfl, Nat.le_of_ble_eq_true rfl⟩) (kM_st _ _) hK hP (va_recv hK1 hP (ci := 5) (q0 := 0) rfl rfl) rfl hl.1 rfl (Nat.le_of_ble_eq_true rfl) dX5_about_2 ⟨Nat.zero_le _, Nat.zero_le _⟩) hS (fun H locs hP hS => ?_)
  refine lv_if_ne (tgt := 11) hx hb dX5_about_5 (by decide) (fun e20 => ?_) (fun e20 => ?_)
  · have hM := it_n e20 hM
    refine lv_aload_n hx hb dX5_about_11 rfl (lv_at hl 0 rfl) ?_
    refine lv_iload_n hx hb dX5_about_12 rfl (lv_at hl 1 rfl) ?_
    obtain ⟨r4, h3, hM⟩ := bd1_some sm_ne hM
    refine gCi (gV (As := [.int a1]) (rest := []) ⟨hx, hb, hml, hown, hts⟩ (kX5_size l dC dI ad cA hap _ c a1 _ h3) (cwV 1 hts gX5_about_X5_size rfl rfl rfl (by decide +kernel) ⟨Nat.le_of_ble_eq_true rfl, Nat.le_of_ble_eq_true rfl⟩) (kM_st _ _) hK hP (va_recv hK1 hP (ci := 5) (q0 := 0) rfl rfl) rfl hl.1 rfl (Nat.le_of_ble_eq_true rfl) dX5_about_13 ⟨Nat.zero_le _, Nat.zero_le _⟩) hS (fun H locs hP hS => ?_)
    obtain ⟨r6, h5, hM⟩ := bd1_some sm_ne hM
    refine gCi (gS (As := [.int r4]) (rest := []) ⟨hx, hb, hml, hown, hts⟩ (kX5_classOf l dC dI ad cA hap _ c r4 _ h5) (va_cwS 1 hts gX5_about_X5_classOf rfl rfl rfl (by decide +kernel) ⟨Nat.le_of_ble_eq_true rfl, Nat.le_of_ble_eq_true rfl⟩) (kM_st _ _) hK hP rfl hl.1 rfl (Nat.le_of_ble_eq_true rfl) dX5_about_16 ⟨Nat.zero_le _, Nat.zero_le _⟩) hS (fun H locs hP hS => ?_)
    refine lv_istore_n (lv' := [(3, .int r6), (0, .ref (ad 0)), (1, .int a1), (2, .int a2)]) hx hb dX5_about_19 rfl hl (by decide) rfl (fun ls hl => ?_)
    refine lv_iload_n hx hb dX5_about_20 rfl (lv_at hl 3 rfl) ?_
    by_cases e21_0 : a2 = 0
    · have hM := it_p e21_0 hM
      refine lv_tableIn (off := 39) (tgt := 60) hx hb dX5_about_21 (by rw [e21_0]; decide) (by rw [e21_0]; decide) (by rw [e21_0]; rfl) (by decide) ?_
      refine lv_aload_n hx hb dX5_about_60 rfl (lv_at hl 1 rfl) ?_
      refine gget (v := .ref (ad 9)) hx hb hts i5 hown hK1 hP 0 rfl rfl 9 (by decide) f39 rfl rfl dX5_about_61 ?_
      refine lv_iload_n hx hb dX5_about_64 rfl (lv_at hl 2 rfl) ?_
      obtain ⟨h8, x7, hx7, hM⟩ := ldA_some sm_ne hM
      refine gald hx hb hK1 hP 9 8 rfl rfl h8 hx7 dX5_about_65 ?_
      exact W.iret hx hb hr (fun t ht hW => ⟨⟨_, _, rfl, ⟨pr1 hM, rfl⟩, hPt ht hP⟩, hS.F ht⟩) hS.2.2 dX5_about_66
    have hM := it_n e21_0 hM
    by_cases e21_1 : a2 = 1
    · have hM := it_p e21_1 hM
      refine lv_tableIn (off := 46) (tgt := 67) hx hb dX5_about_21 (by rw [e21_1]; decide) (by rw [e21_1]; decide) (by rw [e21_1]; rfl) (by decide) ?_
      refine lv_aload_n hx hb dX5_about_67 rfl (lv_at hl 1 rfl) ?_
      refine gget (v := .ref (ad 10)) hx hb hts i5 hown hK1 hP 0 rfl rfl 10 (by decide) f42 rfl rfl dX5_about_68 ?_
      refine lv_iload_n hx hb dX5_about_71 rfl (lv_at hl 2 rfl) ?_
      obtain ⟨h10, x9, hx9, hM⟩ := ldA_some sm_ne hM
      refine gald hx hb hK1 hP 10 9 rfl rfl h10 hx9 dX5_about_72 ?_
      exact W.iret hx hb hr (fun t ht hW => ⟨⟨_, _, rfl, ⟨pr1 hM, rfl⟩, hPt ht hP⟩, hS.F ht⟩) hS.2.2 dX5_about_73
    have hM := it_n e21_1 hM
    by_cases e21_2 : a2 = 2
    · have hM := it_p e21_2 hM
      refine lv_tableIn (off := 53) (tgt := 74) hx hb dX5_about_21 (by rw [e21_2]; decide) (by rw [e21_2]; decide) (by rw [e21_2]; rfl) (by decide) ?_
      refine lv_aload_n hx hb dX5_about_74 rfl (lv_at hl 1 rfl) ?_
      refine gget (v := .ref (ad 7)) hx hb hts i5 hown hK1 hP 0 rfl rfl 7 (by decide) f33 rfl rfl dX5_about_75 ?_
      refine lv_iload_n hx hb dX5_about_78 rfl (lv_at hl 2 rfl) ?_
      obtain ⟨h12, x11, hx11, hM⟩ := ldA_some sm_ne hM
      refine gzld hx hb hK1 hP 7 6 rfl rfl h12 hx11 dX5_about_79 ?_
      refine lv_if_eq (tgt := 87) hx hb dX5_about_80 (by decide) (fun e13 => ?_) (fun e13 => ?_)
      · have hM := it_p e13 hM
        refine lv_iconst (v := 0) hx hb dX5_about_87 (by decide) ?_
        exact W.iret hx hb hr (fun t ht hW => ⟨⟨_, _, rfl, ⟨pr1 hM, rfl⟩, hPt ht hP⟩, hS.F ht⟩) hS.2.2 dX5_about_88
      · have hM := it_n e13 hM
        refine lv_iconst (v := 1) hx hb dX5_about_83 (by decide) ?_
        refine lv_goto (tgt := 88) hx hb dX5_about_84 (by decide) ?_
        exact W.iret hx hb hr (fun t ht hW => ⟨⟨_, _, rfl, ⟨pr1 hM, rfl⟩, hPt ht hP⟩, hS.F ht⟩) hS.2.2 dX5_about_88
    have hM := it_n e21_2 hM
    by_cases e21_3 : a2 = 3
    · have hM := it_p e21_3 hM
      refine lv_tableIn (off := 68) (tgt := 89) hx hb dX5_about_21 (by rw [e21_3]; decide) (by rw [e21_3]; decide) (by rw [e21_3]; rfl) (by decide) ?_
      refine lv_aload_n hx hb dX5_about_89 rfl (lv_at hl 1 rfl) ?_
      refine lv_iload_n hx hb dX5_about_90 rfl (lv_at hl 2 rfl) ?_
      obtain ⟨r15, h14, hM⟩ := bd1_some sm_ne hM
      refine gCi (gV (As := [.int a1]) (rest := []) ⟨hx, hb, hml, hown, hts⟩ (kX5_isRemembered l dC dI ad cA hap _ c a1 _ h14) (cwV 1 hts gX5_about_X5_isRemembered rfl rfl rfl (by decide +kernel) ⟨Nat.le_of_ble_eq_true rfl, Nat.le_of_ble_eq_true rfl⟩) (kM_st _ _) hK hP (va_recv hK1 hP (ci := 5) (q0 := 0) rfl rfl) rfl hl.1 rfl (Nat.le_of_ble_eq_true rfl) dX5_about_91 ⟨Nat.zero_le _, Nat.zero_le _⟩) hS (fun H locs hP hS => ?_)
      refine lv_if_eq (tgt := 101) hx hb dX5_about_94 (by decide) (fun e16 => ?_) (fun e16 => ?_)
      · have hM := it_p e16 hM
        refine lv_iconst (v := 0) hx hb dX5_about_101 (by decide) ?_
        exact W.iret hx hb hr (fun t ht hW => ⟨⟨_, _, rfl, ⟨pr1 hM, rfl⟩, hPt ht hP⟩, hS.F ht⟩) hS.2.2 dX5_about_102
      · have hM := it_n e16 hM
        refine lv_iconst (v := 1) hx hb dX5_about_97 (by decide) ?_
        refine lv_goto (tgt := 102) hx hb dX5_about_98 (by decide) ?_
        exact W.iret hx hb hr (fun t ht hW => ⟨⟨_, _, rfl, ⟨pr1 hM, rfl⟩, hPt ht hP⟩, hS.F ht⟩) hS.2.2 dX5_about_102
    have hM := it_n e21_3 hM
    by_cases e21_4 : a2 = 4
    · have hM := it_p e21_4 hM
      refine lv_tableIn (off := 82) (tgt := 103) hx hb dX5_about_21 (by rw [e21_4]; decide) (by rw [e21_4]; decide) (by rw [e21_4]; rfl) (by decide) ?_
      refine lv_iload_n hx hb dX5_about_103 rfl (lv_at hl 0 rfl) ?_
      refine lv_iconst (v := 5) hx hb dX5_about_104 (by decide) ?_
      refine lv_icmp_ne (tgt := 119) hx hb dX5_about_105 (by decide) (fun e19 => ?_) (fun e19 => ?_)
      · have hM := it_n e19 hM
        refine lv_iload_n hx hb dX5_about_119 rfl (lv_at hl 0 rfl) ?_
        refine gCi (gS (As := [.int r6]) (rest := []) ⟨hx, hb, hml, hown, hts⟩ (kX5_cell l dC dI ad cA hap _ c r6 _ rfl) (va_cwS 1 hts gX5_about_X5_cell rfl rfl rfl (by decide +kernel) ⟨Nat.le_of_ble_eq_true rfl, Nat.le_of_ble_eq_true rfl⟩) (kM_st _ _) hK hP rfl hl.1 rfl (Nat.le_of_ble_eq_true rfl) dX5_about_120 ⟨Nat.zero_le _, Nat.zero_le _⟩) hS (fun H locs hP hS => ?_)
        exact W.iret hx hb hr (fun t ht hW => ⟨⟨_, _, rfl, ⟨pr1 hM, rfl⟩, hPt ht hP⟩, hS.F ht⟩) hS.2.2 dX5_about_123
      · have hM := it_p e19 hM
        refine lv_bipush (v := 64) hx hb dX5_about_108 (by decide) ?_
        refine lv_aload_n hx hb dX5_about_110 rfl (lv_at hl 1 rfl) ?_
        refine lv_iload_n hx hb dX5_about_111 rfl (lv_at hl 2 rfl) ?_
        obtain ⟨r18, h17, hM⟩ := bd1_some sm_ne hM
        refine gCi (gV (As := [.int a1]) (rest := [.int 64]) ⟨hx, hb, hml, hown, hts⟩ (kX5_blocksOf l dC dI ad cA hap _ c a1 _ h17) (cwV 1 hts gX5_about_X5_blocksOf rfl rfl rfl (by decide +kernel) ⟨Nat.le_of_ble_eq_true rfl, Nat.le_of_ble_eq_true rfl⟩) (kM_st _ _) hK hP (va_recv hK1 hP (ci := 5) (q0 := 0) rfl rfl) rfl hl.1 rfl (Nat.le_of_ble_eq_true rfl) dX5_about_112 ⟨Nat.zero_le _, Nat.zero_le _⟩) hS (fun H locs hP hS => ?_)
        refine lv_imul hx hb dX5_about_115 ?_
        refine lv_goto (tgt := 123) hx hb dX5_about_116 (by decide) ?_
        exact W.iret hx hb hr (fun t ht hW => ⟨⟨_, _, rfl, ⟨pr1 hM, rfl⟩, hPt ht hP⟩, hS.F ht⟩) hS.2.2 dX5_about_123
    have hM := it_n e21_4 hM
    by_cases e21_5 : a2 = 5
    · have hM := it_p e21_5 hM
      refine lv_tableIn (off := 103) (tgt := 124) hx hb dX5_about_21 (by rw [e21_5]; decide) (by rw [e21_5]; decide) (by rw [e21_5]; rfl) (by decide) ?_
      refine lv_iload_n hx hb dX5_about_124 rfl (lv_at hl 0 rfl) ?_
      exact W.iret hx hb hr (fun t ht hW => ⟨⟨_, _, rfl, ⟨pr1 hM, rfl⟩, hPt ht hP⟩, hS.F ht⟩) hS.2.2 dX5_about_125
    have hM := it_n e21_5 hM
    refine lv_tableOut (tgt := 126) hx hb dX5_about_21 (tsw_out 5 (by decide) (fun k hk => ?_)) (by decide) ?_
    · rcases (show k = 0 ∨ k = 1 ∨ k = 2 ∨ k = 3 ∨ k = 4 ∨ k = 5 by omega) with rfl | rfl | rfl | rfl | rfl | rfl <;> assumption
    refine lv_bipush (v := (-102)) hx hb dX5_about_126 (by decide) ?_
    exact W.iret hx hb hr (fun t ht hW => ⟨⟨_, _, rfl, ⟨pr1 hM, rfl⟩, hPt ht hP⟩, hS.F ht⟩) hS.2.2 dX5_about_128
  · have hM := it_p e20 hM
    refine lv_bipush (v := (-101)) hx hb dX5_about_8 (by decide) ?_
    exact W.iret hx hb hr (fun t ht hW => ⟨⟨_, _, rfl, ⟨pr1 hM, rfl⟩, hPt ht hP⟩, hS.F ht⟩) hS.2.2 dX5_about_10
set_option maxHeartbeats 4000000 in
set_option maxRecDepth 100000 in
theorem kX5_root (l : Launch) (dC : Nat → ClassId) (dI : Nat → Nat → Nat) (ad : Nat → Nat) (cA : Nat → ClassId) (hap : apart 15 ad) (sz : Nat) (c : HS) (a1 : Int32) (a2 : Int32) (r0 : Int32) (c9 : HS) (hM : pX5_root c a1 a2 = some (r0, c9)) : Met l yX5_root wsX5_root ({ frames := 2, cells := 0, slots := 0, locals := 43 }) (gP (dC, dI) (wM ad cA) (kM (dC, dI) cA) c sz [.ref (ad 0), .int a1, .int a2]) (gQi (dC, dI) (wM ad cA) (fA 15 ad sz) r0 c9) 0 0 (fA 15 ad sz) := by
  refine Met.ofW (cc := cX5_root) (maxL := 4) (ret := (some .int)) (by decide) rfl ?_
  intro p e s m args below meth cd s₁ B hml hv
  obtain ⟨rfl, rfl, hP, hK⟩ := hv
  have hx := B.exec
  have hb := B.bytes
  have hr := B.returns
  have hts := atoms_spec (ws := wsX5_root) B.pre
  have hown : s.vm.findClass RX5 = some m.cls := findClass_of_methodNamed B.named
  have hlocks := B.notSynchronized
  have hK1 : va_K (dC, dI) vwCl (tM cA) s := hK
  have hD : ∀ c, va_D (fA 15 ad s.heap.size) (wM ad cA c) := fun c => dM_ok hap cA c _
  have hS : va_S (fA 15 ad s.heap.size) s.heap s.heap [] := va_S.rf
  have i5 : ∀ w ∈ u_ws RX5 TX5 27, w ∈ wsX5_root := by decide +kernel
  have f45 := hts (.fieldLink RX5 45 "StickyHeapModel" "roots" "[I") (by decide +kernel)
  have L26 : ∀ (c : HS) (v1 : Int32) (v2 : Int32) (H : Heap) (locs : List Loc) (ls : Array Slot), pX5_root_26 c v1 v2 = some (r0, c9) → va_P (dC, dI) vwCl (wM ad cA c) H → va_S (fA 15 ad s.heap.size) s.heap H locs → lv_has ls 4 [(0, .ref (ad 0)), (1, .int v1), (2, .int v2)] → W p l e (headSpec wsX5_root ({ frames := 2, cells := 0, slots := 0, locals := 43 })).room s m ([.ref (ad 0), .int a1, .int a2]).toArray below meth cd H locs 0 0 (MQ below (gQi (dC, dI) (wM ad cA) (fA 15 ad s.heap.size) r0 c9) ([.ref (ad 0), .int a1, .int a2]).toArray s 0 0 (fA 15 ad s.heap.size)) (F0 m 26 ls []) := by
    intro c v1 v2 H locs ls hM hP hS hl
    unfold pX5_root_26 at hM
    refine lv_aload_n hx hb dX5_root_26 rfl (lv_at hl 0 rfl) ?_
    refine gget (v := .ref (ad 11)) hx hb hts i5 hown hK1 hP 0 rfl rfl 11 (by decide) f45 rfl rfl dX5_root_27 ?_
    refine lv_iload_n hx hb dX5_root_30 rfl (lv_at hl 1 rfl) ?_
    obtain ⟨h2, x1, hx1, hM⟩ := ldA_some sm_ne hM
    refine gald hx hb hK1 hP 11 10 rfl rfl h2 hx1 dX5_root_31 ?_
    refine lv_istore_n (lv' := [(3, .int x1), (0, .ref (ad 0)), (1, .int v1), (2, .int v2)]) hx hb dX5_root_32 rfl hl (by decide) rfl (fun ls hl => ?_)
    refine lv_aload_n hx hb dX5_root_33 rfl (lv_at hl 1 rfl) ?_
    refine gget (v := .ref (ad 11)) hx hb hts i5 hown hK1 hP 0 rfl rfl 11 (by decide) f45 rfl rfl dX5_root_34 ?_
    refine lv_iload_n hx hb dX5_root_37 rfl (lv_at hl 2 rfl) ?_
    refine lv_iload_n hx hb dX5_root_38 rfl (lv_at hl 3 rfl) ?_
    obtain ⟨h4, c3, hc3, hM⟩ := stA_some sm_ne hM
    refine gast (w := wM ad cA) (c := c) (c1 := c3) hx hb hK1 hP (hD c) hS 11 10 rfl rfl h4 (by rw [hc3]; rfl) dX5_root_39 (fun H locs hP hS => ?_)
    refine lv_iload_n hx hb dX5_root_40 rfl (lv_at hl 0 rfl) ?_
    exact W.iret hx hb hr (fun t ht hW => ⟨⟨_, _, rfl, pr2 hM, hPt ht hP⟩, hS.F ht⟩) hS.2.2 dX5_root_41
  have hl := lv_entry [.ref (ad 0), .int a1, .int a2] (n := 4) (Nat.le_of_ble_eq_true rfl)
  rw [lg_entry_eq]
  generalize (lg_sl [.ref (ad 0), .int a1, .int a2] ++ List.replicate (4 - (lg_sl [.ref (ad 0), .int a1, .int a2]).length) Slot.unset).toArray = ls at hl ⊢
  have hl : lv_has ls 4 [(0, .ref (ad 0)), (1, .int a1), (2, .int a2)] := hl
  have hP : va_P (dC, dI) vwCl (wM ad cA c) s.heap := hP
  unfold pX5_root at hM
  refine lv_iload_n hx hb dX5_root_0 rfl (lv_at hl 1 rfl) ?_
  refine lv_iconst (v := 0) hx hb dX5_root_1 (by decide) ?_
  refine lv_bipush (v := 9) hx hb dX5_root_2 (by decide) ?_
  refine gCi (gS (As := [.int a1, .int 0, .int 9]) (rest := []) ⟨hx, hb, hml, hown, hts⟩ (kX5_in l dC dI ad cA hap _ c a1 0 9 _ rfl) (va_cwS 3 hts gX5_root_X5_in rfl rfl rfl (by decide +kernel) ⟨Nat.le_of_ble_eq_true rfl, Nat.le_of_ble_eq_true rfl⟩) (kM_st _ _) hK hP rfl hl.1 rfl (Nat.le_of_ble_eq_true rfl) dX5_root_4 ⟨Nat.zero_le _, Nat.zero_le _⟩) hS (fun H locs hP hS => ?_)
  refine lv_if_eq (tgt := 23) hx hb dX5_root_7 (by decide) (fun e9 => ?_) (fun e9 => ?_)
  · have hM := it_p e9 hM
    refine lv_bipush (v := (-101)) hx hb dX5_root_23 (by decide) ?_
    exact W.iret hx hb hr (fun t ht hW => ⟨⟨_, _, rfl, pr2 hM, hPt ht hP⟩, hS.F ht⟩) hS.2.2 dX5_root_25
  · have hM := it_n e9 hM
    refine lv_iload_n hx hb dX5_root_10 rfl (lv_at hl 2 rfl) ?_
    refine lv_iconst (v := (-1)) hx hb dX5_root_11 (by decide) ?_
    refine lv_icmp_eq (tgt := 26) hx hb dX5_root_12 (by decide) (fun e8 => ?_) (fun e8 => ?_)
    · have hM := it_p e8 hM
      exact L26 _ _ _ _ _ _ hM hP hS (lv_sub hl [0, 1, 2] rfl)
    · have hM := it_n e8 hM
      refine lv_aload_n hx hb dX5_root_15 rfl (lv_at hl 0 rfl) ?_
      refine lv_iload_n hx hb dX5_root_16 rfl (lv_at hl 2 rfl) ?_
      obtain ⟨r6, h5, hM⟩ := bd1_some sm_ne hM
      refine gCi (gV (As := [.int a2]) (rest := []) ⟨hx, hb, hml, hown, hts⟩ (kX5_isThing l dC dI ad cA hap _ c a2 _ h5) (cwV 1 hts gX5_root_X5_isThing rfl rfl rfl (by decide +kernel) ⟨Nat.le_of_ble_eq_true rfl, Nat.le_of_ble_eq_true rfl⟩) (kM_st _ _) hK hP (va_recv hK1 hP (ci := 5) (q0 := 0) rfl rfl) rfl hl.1 rfl (Nat.le_of_ble_eq_true rfl) dX5_root_17 ⟨Nat.zero_le _, Nat.zero_le _⟩) hS (fun H locs hP hS => ?_)
      refine lv_if_ne (tgt := 26) hx hb dX5_root_20 (by decide) (fun e7 => ?_) (fun e7 => ?_)
      · have hM := it_n e7 hM
        exact L26 _ _ _ _ _ _ hM hP hS (lv_sub hl [0, 1, 2] rfl)
      · have hM := it_p e7 hM
        refine lv_bipush (v := (-101)) hx hb dX5_root_23 (by decide) ?_
        exact W.iret hx hb hr (fun t ht hW => ⟨⟨_, _, rfl, pr2 hM, hPt ht hP⟩, hS.F ht⟩) hS.2.2 dX5_root_25
set_option maxHeartbeats 4000000 in
set_option maxRecDepth 100000 in
theorem kX5_rooted (l : Launch) (dC : Nat → ClassId) (dI : Nat → Nat → Nat) (ad : Nat → Nat) (cA : Nat → ClassId) (hap : apart 15 ad) (sz : Nat) (c : HS) (a1 : Int32) (r0 : Int32) (hM : pX5_rooted c a1 = some r0) : Met l yX5_rooted wsX5_rooted ({ frames := 1, cells := 0, slots := 0, locals := 22 }) (gP (dC, dI) (wM ad cA) (kM (dC, dI) cA) c sz [.ref (ad 0), .int a1]) (gQi (dC, dI) (wM ad cA) (fA 15 ad sz) r0 c) 0 0 (fA 15 ad sz) := by
  refine Met.ofW (cc := cX5_rooted) (maxL := 2) (ret := (some .int)) (by decide) rfl ?_
  intro p e s m args below meth cd s₁ B hml hv
  obtain ⟨rfl, rfl, hP, hK⟩ := hv
  have hx := B.exec
  have hb := B.bytes
  have hr := B.returns
  have hts := atoms_spec (ws := wsX5_rooted) B.pre
  have hown : s.vm.findClass RX5 = some m.cls := findClass_of_methodNamed B.named
  have hlocks := B.notSynchronized
  have hK1 : va_K (dC, dI) vwCl (tM cA) s := hK
  have hD : ∀ c, va_D (fA 15 ad s.heap.size) (wM ad cA c) := fun c => dM_ok hap cA c _
  have hS : va_S (fA 15 ad s.heap.size) s.heap s.heap [] := va_S.rf
  have i5 : ∀ w ∈ u_ws RX5 TX5 27, w ∈ wsX5_rooted := by decide +kernel
  have f45 := hts (.fieldLink RX5 45 "StickyHeapModel" "roots" "[I") (by decide +kernel)
  have hl := lv_entry [.ref (ad 0), .int a1] (n := 2) (Nat.le_of_ble_eq_true rfl)
  rw [lg_entry_eq]
  generalize (lg_sl [.ref (ad 0), .int a1] ++ List.replicate (2 - (lg_sl [.ref (ad 0), .int a1]).length) Slot.unset).toArray = ls at hl ⊢
  have hl : lv_has ls 2 [(0, .ref (ad 0)), (1, .int a1)] := hl
  have hP : va_P (dC, dI) vwCl (wM ad cA c) s.heap := hP
  unfold pX5_rooted at hM
  refine lv_iload_n hx hb dX5_rooted_0 rfl (lv_at hl 1 rfl) ?_
  refine lv_iconst (v := 0) hx hb dX5_rooted_1 (by decide) ?_
  refine lv_bipush (v := 9) hx hb dX5_rooted_2 (by decide) ?_
  refine gCi (gS (As := [.int a1, .int 0, .int 9]) (rest := []) ⟨hx, hb, hml, hown, hts⟩ (kX5_in l dC dI ad cA hap _ c a1 0 9 _ rfl) (va_cwS 3 hts gX5_rooted_X5_in rfl rfl rfl (by decide +kernel) ⟨Nat.le_of_ble_eq_true rfl, Nat.le_of_ble_eq_true rfl⟩) (kM_st _ _) hK hP rfl hl.1 rfl (Nat.le_of_ble_eq_true rfl) dX5_rooted_4 ⟨Nat.zero_le _, Nat.zero_le _⟩) hS (fun H locs hP hS => ?_)
  refine lv_if_eq (tgt := 19) hx hb dX5_rooted_7 (by decide) (fun e3 => ?_) (fun e3 => ?_)
  · have hM := it_p e3 hM
    refine lv_bipush (v := (-101)) hx hb dX5_rooted_19 (by decide) ?_
    exact W.iret hx hb hr (fun t ht hW => ⟨⟨_, _, rfl, ⟨pr1 hM, rfl⟩, hPt ht hP⟩, hS.F ht⟩) hS.2.2 dX5_rooted_21
  · have hM := it_n e3 hM
    refine lv_aload_n hx hb dX5_rooted_10 rfl (lv_at hl 0 rfl) ?_
    refine gget (v := .ref (ad 11)) hx hb hts i5 hown hK1 hP 0 rfl rfl 11 (by decide) f45 rfl rfl dX5_rooted_11 ?_
    refine lv_iload_n hx hb dX5_rooted_14 rfl (lv_at hl 1 rfl) ?_
    obtain ⟨h2, x1, hx1, hM⟩ := ldA_some sm_ne hM
    refine gald hx hb hK1 hP 11 10 rfl rfl h2 hx1 dX5_rooted_15 ?_
    refine lv_goto (tgt := 21) hx hb dX5_rooted_16 (by decide) ?_
    exact W.iret hx hb hr (fun t ht hW => ⟨⟨_, _, rfl, ⟨pr1 hM, rfl⟩, hPt ht hP⟩, hS.F ht⟩) hS.2.2 dX5_rooted_21
set_option maxHeartbeats 4000000 in
set_option maxRecDepth 100000 in
theorem kX5_push (l : Launch) (dC : Nat → ClassId) (dI : Nat → Nat → Nat) (ad : Nat → Nat) (cA : Nat → ClassId) (hap : apart 15 ad) (sz : Nat) (c : HS) (a1 : Int32) (r0 : Int32) (c9 : HS) (hM : pX5_push c a1 = some (r0, c9)) : Met l yX5_push wsX5_push ({ frames := 0, cells := 0, slots := 0, locals := 0 }) (gP (dC, dI) (wM ad cA) (kM (dC, dI) cA) c sz [.ref (ad 0), .int a1]) (gQi (dC, dI) (wM ad cA) (fA 15 ad sz) r0 c9) 0 0 (fA 15 ad sz) := by
  refine Met.ofW (cc := cX5_push) (maxL := 2) (ret := (some .int)) (by decide) rfl ?_
  intro p e s m args below meth cd s₁ B hml hv
  obtain ⟨rfl, rfl, hP, hK⟩ := hv
  have hx := B.exec
  have hb := B.bytes
  have hr := B.returns
  have hts := atoms_spec (ws := wsX5_push) B.pre
  have hown : s.vm.findClass RX5 = some m.cls := findClass_of_methodNamed B.named
  have hlocks := B.notSynchronized
  have hK1 : va_K (dC, dI) vwCl (tM cA) s := hK
  have hD : ∀ c, va_D (fA 15 ad s.heap.size) (wM ad cA c) := fun c => dM_ok hap cA c _
  have hS : va_S (fA 15 ad s.heap.size) s.heap s.heap [] := va_S.rf
  have i5 : ∀ w ∈ u_ws RX5 TX5 27, w ∈ wsX5_push := by decide +kernel
  have f48 := hts (.fieldLink RX5 48 "StickyHeapModel" "stack" "[I") (by decide +kernel)
  have f69 := hts (.fieldLink RX5 69 "StickyHeapModel" "deep" "I") (by decide +kernel)
  have hl := lv_entry [.ref (ad 0), .int a1] (n := 2) (Nat.le_of_ble_eq_true rfl)
  rw [lg_entry_eq]
  generalize (lg_sl [.ref (ad 0), .int a1] ++ List.replicate (2 - (lg_sl [.ref (ad 0), .int a1]).length) Slot.unset).toArray = ls at hl ⊢
  have hl : lv_has ls 2 [(0, .ref (ad 0)), (1, .int a1)] := hl
  have hP : va_P (dC, dI) vwCl (wM ad cA c) s.heap := hP
  unfold pX5_push at hM
  refine lv_aload_n hx hb dX5_push_0 rfl (lv_at hl 0 rfl) ?_
  refine gget (v := .int (c.1 0 1)) hx hb hts i5 hown hK1 hP 0 rfl rfl 13 (by decide) f69 rfl rfl dX5_push_1 ?_
  refine lv_bipush (v := 24) hx hb dX5_push_4 (by decide) ?_
  refine lv_icmp_ne (tgt := 12) hx hb dX5_push_6 (by decide) (fun e4 => ?_) (fun e4 => ?_)
  · have hM := it_n e4 hM
    refine lv_aload_n hx hb dX5_push_12 rfl (lv_at hl 0 rfl) ?_
    refine gget (v := .ref (ad 12)) hx hb hts i5 hown hK1 hP 0 rfl rfl 12 (by decide) f48 rfl rfl dX5_push_13 ?_
    refine lv_aload_n hx hb dX5_push_16 rfl (lv_at hl 0 rfl) ?_
    refine gget (v := .int (c.1 0 1)) hx hb hts i5 hown hK1 hP 0 rfl rfl 13 (by decide) f69 rfl rfl dX5_push_17 ?_
    refine lv_iload_n hx hb dX5_push_20 rfl (lv_at hl 1 rfl) ?_
    obtain ⟨h2, c1, hc1, hM⟩ := stA_some sm_ne hM
    refine gast (w := wM ad cA) (c := c) (c1 := c1) hx hb hK1 hP (hD c) hS 12 11 rfl rfl h2 (by rw [hc1]; rfl) dX5_push_21 (fun H locs hP hS => ?_)
    refine lv_aload_n hx hb dX5_push_22 rfl (lv_at hl 0 rfl) ?_
    refine lv_dup hx hb dX5_push_23 rfl ?_
    refine gget (v := .int (c1.1 0 1)) hx hb hts i5 hown hK1 hP 0 rfl rfl 13 (by decide) f69 rfl rfl dX5_push_24 ?_
    refine lv_iconst (v := 1) hx hb dX5_push_27 (by decide) ?_
    refine lv_iadd hx hb dX5_push_28 ?_
    obtain ⟨c3, hc3, hM⟩ := pfA_some hM
    refine gput (w := wM ad cA) (c := c1) (c1 := c3) (v := .int ((c1.1 0 1) + 1)) hx hb hts i5 tyX5 tyX5_ok nmX5 hown hK1 hP (hD c1) hS 0 rfl rfl 13 (by decide) f69 rfl rfl rfl rfl (Nat.le_of_ble_eq_true rfl) (by rw [hc3]; rfl) dX5_push_29 (fun H locs hP hS => ?_)
    refine lv_aload_n hx hb dX5_push_32 rfl (lv_at hl 0 rfl) ?_
    refine gget (v := .int (c3.1 0 1)) hx hb hts i5 hown hK1 hP 0 rfl rfl 13 (by decide) f69 rfl rfl dX5_push_33 ?_
    exact W.iret hx hb hr (fun t ht hW => ⟨⟨_, _, rfl, pr2 hM, hPt ht hP⟩, hS.F ht⟩) hS.2.2 dX5_push_36
  · have hM := it_p e4 hM
    refine lv_bipush (v := (-104)) hx hb dX5_push_9 (by decide) ?_
    exact W.iret hx hb hr (fun t ht hW => ⟨⟨_, _, rfl, pr2 hM, hPt ht hP⟩, hS.F ht⟩) hS.2.2 dX5_push_11
set_option maxHeartbeats 4000000 in
set_option maxRecDepth 100000 in
theorem kX5_pop (l : Launch) (dC : Nat → ClassId) (dI : Nat → Nat → Nat) (ad : Nat → Nat) (cA : Nat → ClassId) (hap : apart 15 ad) (sz : Nat) (c : HS) (r0 : Int32) (c9 : HS) (hM : pX5_pop c = some (r0, c9)) : Met l yX5_pop wsX5_pop ({ frames := 0, cells := 0, slots := 0, locals := 0 }) (gP (dC, dI) (wM ad cA) (kM (dC, dI) cA) c sz [.ref (ad 0)]) (gQi (dC, dI) (wM ad cA) (fA 15 ad sz) r0 c9) 0 0 (fA 15 ad sz) := by
  refine Met.ofW (cc := cX5_pop) (maxL := 1) (ret := (some .int)) (by decide) rfl ?_
  intro p e s m args below meth cd s₁ B hml hv
  obtain ⟨rfl, rfl, hP, hK⟩ := hv
  have hx := B.exec
  have hb := B.bytes
  have hr := B.returns
  have hts := atoms_spec (ws := wsX5_pop) B.pre
  have hown : s.vm.findClass RX5 = some m.cls := findClass_of_methodNamed B.named
  have hlocks := B.notSynchronized
  have hK1 : va_K (dC, dI) vwCl (tM cA) s := hK
  have hD : ∀ c, va_D (fA 15 ad s.heap.size) (wM ad cA c) := fun c => dM_ok hap cA c _
  have hS : va_S (fA 15 ad s.heap.size) s.heap s.heap [] := va_S.rf
  have i5 : ∀ w ∈ u_ws RX5 TX5 27, w ∈ wsX5_pop := by decide +kernel
  have f48 := hts (.fieldLink RX5 48 "StickyHeapModel" "stack" "[I") (by decide +kernel)
  have f69 := hts (.fieldLink RX5 69 "StickyHeapModel" "deep" "I") (by decide +kernel)
  have f78 := hts (.fieldLink RX5 78 "StickyHeapModel" "seen" "I") (by decide +kernel)
  have hl := lv_entry [.ref (ad 0)] (n := 1) (Nat.le_of_ble_eq_true rfl)
  rw [lg_entry_eq]
  generalize (lg_sl [.ref (ad 0)] ++ List.replicate (1 - (lg_sl [.ref (ad 0)]).length) Slot.unset).toArray = ls at hl ⊢
  have hl : lv_has ls 1 [(0, .ref (ad 0))] := hl
  have hP : va_P (dC, dI) vwCl (wM ad cA c) s.heap := hP
  unfold pX5_pop at hM
  refine lv_aload_n hx hb dX5_pop_0 rfl (lv_at hl 0 rfl) ?_
  refine gget (v := .int (c.1 0 1)) hx hb hts i5 hown hK1 hP 0 rfl rfl 13 (by decide) f69 rfl rfl dX5_pop_1 ?_
  refine lv_if_ne (tgt := 10) hx hb dX5_pop_4 (by decide) (fun e5 => ?_) (fun e5 => ?_)
  · have hM := it_n e5 hM
    refine lv_aload_n hx hb dX5_pop_10 rfl (lv_at hl 0 rfl) ?_
    refine lv_dup hx hb dX5_pop_11 rfl ?_
    refine gget (v := .int (c.1 0 1)) hx hb hts i5 hown hK1 hP 0 rfl rfl 13 (by decide) f69 rfl rfl dX5_pop_12 ?_
    refine lv_iconst (v := 1) hx hb dX5_pop_15 (by decide) ?_
    refine lv_isub hx hb dX5_pop_16 ?_
    obtain ⟨c1, hc1, hM⟩ := pfA_some hM
    refine gput (w := wM ad cA) (c := c) (c1 := c1) (v := .int ((c.1 0 1) - 1)) hx hb hts i5 tyX5 tyX5_ok nmX5 hown hK1 hP (hD c) hS 0 rfl rfl 13 (by decide) f69 rfl rfl rfl rfl (Nat.le_of_ble_eq_true rfl) (by rw [hc1]; rfl) dX5_pop_17 (fun H locs hP hS => ?_)
    refine lv_aload_n hx hb dX5_pop_20 rfl (lv_at hl 0 rfl) ?_
    refine lv_aload_n hx hb dX5_pop_21 rfl (lv_at hl 0 rfl) ?_
    refine gget (v := .ref (ad 12)) hx hb hts i5 hown hK1 hP 0 rfl rfl 12 (by decide) f48 rfl rfl dX5_pop_22 ?_
    refine lv_aload_n hx hb dX5_pop_25 rfl (lv_at hl 0 rfl) ?_
    refine gget (v := .int (c1.1 0 1)) hx hb hts i5 hown hK1 hP 0 rfl rfl 13 (by decide) f69 rfl rfl dX5_pop_26 ?_
    obtain ⟨h3, x2, hx2, hM⟩ := ldA_some sm_ne hM
    refine gald hx hb hK1 hP 12 11 rfl rfl h3 hx2 dX5_pop_29 ?_
    obtain ⟨c4, hc4, hM⟩ := pfA_some hM
    refine gput (w := wM ad cA) (c := c1) (c1 := c4) (v := .int x2) hx hb hts i5 tyX5 tyX5_ok nmX5 hown hK1 hP (hD c1) hS 0 rfl rfl 19 (by decide) f78 rfl rfl rfl rfl (Nat.le_of_ble_eq_true rfl) (by rw [hc4]; rfl) dX5_pop_30 (fun H locs hP hS => ?_)
    refine lv_aload_n hx hb dX5_pop_33 rfl (lv_at hl 0 rfl) ?_
    refine gget (v := .int (c4.1 0 1)) hx hb hts i5 hown hK1 hP 0 rfl rfl 13 (by decide) f69 rfl rfl dX5_pop_34 ?_
    exact W.iret hx hb hr (fun t ht hW => ⟨⟨_, _, rfl, pr2 hM, hPt ht hP⟩, hS.F ht⟩) hS.2.2 dX5_pop_37
  · have hM := it_p e5 hM
    refine lv_bipush (v := (-103)) hx hb dX5_pop_7 (by decide) ?_
    exact W.iret hx hb hr (fun t ht hW => ⟨⟨_, _, rfl, pr2 hM, hPt ht hP⟩, hS.F ht⟩) hS.2.2 dX5_pop_9
set_option maxHeartbeats 4000000 in
set_option maxRecDepth 100000 in
theorem kX5_top (l : Launch) (dC : Nat → ClassId) (dI : Nat → Nat → Nat) (ad : Nat → Nat) (cA : Nat → ClassId) (hap : apart 15 ad) (sz : Nat) (c : HS) (a1 : Int32) (r0 : Int32) (c9 : HS) (hM : pX5_top c a1 = some (r0, c9)) : Met l yX5_top wsX5_top ({ frames := 1, cells := 0, slots := 0, locals := 22 }) (gP (dC, dI) (wM ad cA) (kM (dC, dI) cA) c sz [.ref (ad 0), .int a1]) (gQi (dC, dI) (wM ad cA) (fA 15 ad sz) r0 c9) 0 0 (fA 15 ad sz) := by
  refine Met.ofW (cc := cX5_top) (maxL := 2) (ret := (some .int)) (by decide) rfl ?_
  intro p e s m args below meth cd s₁ B hml hv
  obtain ⟨rfl, rfl, hP, hK⟩ := hv
  have hx := B.exec
  have hb := B.bytes
  have hr := B.returns
  have hts := atoms_spec (ws := wsX5_top) B.pre
  have hown : s.vm.findClass RX5 = some m.cls := findClass_of_methodNamed B.named
  have hlocks := B.notSynchronized
  have hK1 : va_K (dC, dI) vwCl (tM cA) s := hK
  have hD : ∀ c, va_D (fA 15 ad s.heap.size) (wM ad cA c) := fun c => dM_ok hap cA c _
  have hS : va_S (fA 15 ad s.heap.size) s.heap s.heap [] := va_S.rf
  have i5 : ∀ w ∈ u_ws RX5 TX5 27, w ∈ wsX5_top := by decide +kernel
  have f48 := hts (.fieldLink RX5 48 "StickyHeapModel" "stack" "[I") (by decide +kernel)
  have f69 := hts (.fieldLink RX5 69 "StickyHeapModel" "deep" "I") (by decide +kernel)
  have f78 := hts (.fieldLink RX5 78 "StickyHeapModel" "seen" "I") (by decide +kernel)
  have hl := lv_entry [.ref (ad 0), .int a1] (n := 2) (Nat.le_of_ble_eq_true rfl)
  rw [lg_entry_eq]
  generalize (lg_sl [.ref (ad 0), .int a1] ++ List.replicate (2 - (lg_sl [.ref (ad 0), .int a1]).length) Slot.unset).toArray = ls at hl ⊢
  have hl : lv_has ls 2 [(0, .ref (ad 0)), (1, .int a1)] := hl
  have hP : va_P (dC, dI) vwCl (wM ad cA c) s.heap := hP
  unfold pX5_top at hM
  refine lv_iload_n hx hb dX5_top_0 rfl (lv_at hl 1 rfl) ?_
  refine lv_iconst (v := 0) hx hb dX5_top_1 (by decide) ?_
  refine lv_aload_n hx hb dX5_top_2 rfl (lv_at hl 0 rfl) ?_
  refine gget (v := .int (c.1 0 1)) hx hb hts i5 hown hK1 hP 0 rfl rfl 13 (by decide) f69 rfl rfl dX5_top_3 ?_
  refine lv_iconst (v := 1) hx hb dX5_top_6 (by decide) ?_
  refine lv_isub hx hb dX5_top_7 ?_
  refine gCi (gS (As := [.int a1, .int 0, .int ((c.1 0 1) - 1)]) (rest := []) ⟨hx, hb, hml, hown, hts⟩ (kX5_in l dC dI ad cA hap _ c a1 0 ((c.1 0 1) - 1) _ rfl) (va_cwS 3 hts gX5_top_X5_in rfl rfl rfl (by decide +kernel) ⟨Nat.le_of_ble_eq_true rfl, Nat.le_of_ble_eq_true rfl⟩) (kM_st _ _) hK hP rfl hl.1 rfl (Nat.le_of_ble_eq_true rfl) dX5_top_8 ⟨Nat.zero_le _, Nat.zero_le _⟩) hS (fun H locs hP hS => ?_)
  refine lv_if_ne (tgt := 16) hx hb dX5_top_11 (by decide) (fun e4 => ?_) (fun e4 => ?_)
  · have hM := it_n e4 hM
    refine lv_aload_n hx hb dX5_top_16 rfl (lv_at hl 0 rfl) ?_
    refine lv_aload_n hx hb dX5_top_17 rfl (lv_at hl 0 rfl) ?_
    refine gget (v := .ref (ad 12)) hx hb hts i5 hown hK1 hP 0 rfl rfl 12 (by decide) f48 rfl rfl dX5_top_18 ?_
    refine lv_aload_n hx hb dX5_top_21 rfl (lv_at hl 0 rfl) ?_
    refine gget (v := .int (c.1 0 1)) hx hb hts i5 hown hK1 hP 0 rfl rfl 13 (by decide) f69 rfl rfl dX5_top_22 ?_
    refine lv_iconst (v := 1) hx hb dX5_top_25 (by decide) ?_
    refine lv_isub hx hb dX5_top_26 ?_
    refine lv_iload_n hx hb dX5_top_27 rfl (lv_at hl 1 rfl) ?_
    refine lv_isub hx hb dX5_top_28 ?_
    obtain ⟨h2, x1, hx1, hM⟩ := ldA_some sm_ne hM
    refine gald hx hb hK1 hP 12 11 rfl rfl h2 hx1 dX5_top_29 ?_
    obtain ⟨c3, hc3, hM⟩ := pfA_some hM
    refine gput (w := wM ad cA) (c := c) (c1 := c3) (v := .int x1) hx hb hts i5 tyX5 tyX5_ok nmX5 hown hK1 hP (hD c) hS 0 rfl rfl 19 (by decide) f78 rfl rfl rfl rfl (Nat.le_of_ble_eq_true rfl) (by rw [hc3]; rfl) dX5_top_30 (fun H locs hP hS => ?_)
    refine lv_iconst (v := 1) hx hb dX5_top_33 (by decide) ?_
    exact W.iret hx hb hr (fun t ht hW => ⟨⟨_, _, rfl, pr2 hM, hPt ht hP⟩, hS.F ht⟩) hS.2.2 dX5_top_34
  · have hM := it_p e4 hM
    refine lv_iconst (v := 0) hx hb dX5_top_14 (by decide) ?_
    exact W.iret hx hb hr (fun t ht hW => ⟨⟨_, _, rfl, pr2 hM, hPt ht hP⟩, hS.F ht⟩) hS.2.2 dX5_top_15
set_option maxHeartbeats 4000000 in
set_option maxRecDepth 100000 in
theorem kX5_minor (l : Launch) (dC : Nat → ClassId) (dI : Nat → Nat → Nat) (ad : Nat → Nat) (cA : Nat → ClassId) (hap : apart 15 ad) (sz : Nat) (c : HS) (r0 : Int32) (c9 : HS) (hM : pX5_minor c = some (r0, c9)) : Met l yX5_minor wsX5_minor ({ frames := 4, cells := 0, slots := 0, locals := 91 }) (gP (dC, dI) (wM ad cA) (kM (dC, dI) cA) c sz [.ref (ad 0)]) (gQi (dC, dI) (wM ad cA) (fA 15 ad sz) r0 c9) 0 0 (fA 15 ad sz) := by
  refine Met.ofW (cc := cX5_minor) (maxL := 2) (ret := (some .int)) (by decide) rfl ?_
  intro p e s m args below meth cd s₁ B hml hv
  obtain ⟨rfl, rfl, hP, hK⟩ := hv
  have hx := B.exec
  have hb := B.bytes
  have hr := B.returns
  have hts := atoms_spec (ws := wsX5_minor) B.pre
  have hown : s.vm.findClass RX5 = some m.cls := findClass_of_methodNamed B.named
  have hlocks := B.notSynchronized
  have hK1 : va_K (dC, dI) vwCl (tM cA) s := hK
  have hD : ∀ c, va_D (fA 15 ad s.heap.size) (wM ad cA c) := fun c => dM_ok hap cA c _
  have hS : va_S (fA 15 ad s.heap.size) s.heap s.heap [] := va_S.rf
  have i5 : ∀ w ∈ u_ws RX5 TX5 27, w ∈ wsX5_minor := by decide +kernel
  have f108 := hts (.fieldLink RX5 108 "StickyHeapModel" "gone" "I") (by decide +kernel)
  have f115 := hts (.fieldLink RX5 115 "StickyHeapModel" "minors" "I") (by decide +kernel)
  have hl := lv_entry [.ref (ad 0)] (n := 2) (Nat.le_of_ble_eq_true rfl)
  rw [lg_entry_eq]
  generalize (lg_sl [.ref (ad 0)] ++ List.replicate (2 - (lg_sl [.ref (ad 0)]).length) Slot.unset).toArray = ls at hl ⊢
  have hl : lv_has ls 2 [(0, .ref (ad 0))] := hl
  have hP : va_P (dC, dI) vwCl (wM ad cA c) s.heap := hP
  unfold pX5_minor at hM
  refine lv_aload_n hx hb dX5_minor_0 rfl (lv_at hl 0 rfl) ?_
  refine lv_iconst (v := 0) hx hb dX5_minor_1 (by decide) ?_
  obtain ⟨r3, c2, h1, hM⟩ := bd2_some sm_ne hM
  refine gCi (gV (As := [.int 0]) (rest := []) ⟨hx, hb, hml, hown, hts⟩ (kX5_collect l dC dI ad cA hap _ c 0 _ _ h1) (cwV 1 hts gX5_minor_X5_collect rfl rfl rfl (by decide +kernel) ⟨Nat.le_of_ble_eq_true rfl, Nat.le_of_ble_eq_true rfl⟩) (kM_st _ _) hK hP (va_recv hK1 hP (ci := 5) (q0 := 0) rfl rfl) rfl hl.1 rfl (Nat.le_of_ble_eq_true rfl) dX5_minor_2 ⟨Nat.zero_le _, Nat.zero_le _⟩) hS (fun H locs hP hS => ?_)
  refine lv_istore_n (lv' := [(1, .int r3), (0, .ref (ad 0))]) hx hb dX5_minor_5 rfl hl (by decide) rfl (fun ls hl => ?_)
  refine lv_aload_n hx hb dX5_minor_6 rfl (lv_at hl 1 rfl) ?_
  refine lv_dup hx hb dX5_minor_7 rfl ?_
  refine gget (v := .int (c2.1 0 9)) hx hb hts i5 hown hK1 hP 0 rfl rfl 22 (by decide) f115 rfl rfl dX5_minor_8 ?_
  refine lv_iconst (v := 1) hx hb dX5_minor_11 (by decide) ?_
  refine lv_iadd hx hb dX5_minor_12 ?_
  obtain ⟨c4, hc4, hM⟩ := pfA_some hM
  refine gput (w := wM ad cA) (c := c2) (c1 := c4) (v := .int ((c2.1 0 9) + 1)) hx hb hts i5 tyX5 tyX5_ok nmX5 hown hK1 hP (hD c2) hS 0 rfl rfl 22 (by decide) f115 rfl rfl rfl rfl (Nat.le_of_ble_eq_true rfl) (by rw [hc4]; rfl) dX5_minor_13 (fun H locs hP hS => ?_)
  refine lv_aload_n hx hb dX5_minor_16 rfl (lv_at hl 1 rfl) ?_
  refine lv_dup hx hb dX5_minor_17 rfl ?_
  refine gget (v := .int (c4.1 0 8)) hx hb hts i5 hown hK1 hP 0 rfl rfl 21 (by decide) f108 rfl rfl dX5_minor_18 ?_
  refine lv_iload_n hx hb dX5_minor_21 rfl (lv_at hl 0 rfl) ?_
  refine lv_iadd hx hb dX5_minor_22 ?_
  obtain ⟨c5, hc5, hM⟩ := pfA_some hM
  refine gput (w := wM ad cA) (c := c4) (c1 := c5) (v := .int ((c4.1 0 8) + r3)) hx hb hts i5 tyX5 tyX5_ok nmX5 hown hK1 hP (hD c4) hS 0 rfl rfl 21 (by decide) f108 rfl rfl rfl rfl (Nat.le_of_ble_eq_true rfl) (by rw [hc5]; rfl) dX5_minor_23 (fun H locs hP hS => ?_)
  refine lv_iload_n hx hb dX5_minor_26 rfl (lv_at hl 0 rfl) ?_
  exact W.iret hx hb hr (fun t ht hW => ⟨⟨_, _, rfl, pr2 hM, hPt ht hP⟩, hS.F ht⟩) hS.2.2 dX5_minor_27
set_option maxHeartbeats 4000000 in
set_option maxRecDepth 100000 in
theorem kX5_full (l : Launch) (dC : Nat → ClassId) (dI : Nat → Nat → Nat) (ad : Nat → Nat) (cA : Nat → ClassId) (hap : apart 15 ad) (sz : Nat) (c : HS) (r0 : Int32) (c9 : HS) (hM : pX5_full c = some (r0, c9)) : Met l yX5_full wsX5_full ({ frames := 4, cells := 0, slots := 0, locals := 91 }) (gP (dC, dI) (wM ad cA) (kM (dC, dI) cA) c sz [.ref (ad 0)]) (gQi (dC, dI) (wM ad cA) (fA 15 ad sz) r0 c9) 0 0 (fA 15 ad sz) := by
  refine Met.ofW (cc := cX5_full) (maxL := 2) (ret := (some .int)) (by decide) rfl ?_
  intro p e s m args below meth cd s₁ B hml hv
  obtain ⟨rfl, rfl, hP, hK⟩ := hv
  have hx := B.exec
  have hb := B.bytes
  have hr := B.returns
  have hts := atoms_spec (ws := wsX5_full) B.pre
  have hown : s.vm.findClass RX5 = some m.cls := findClass_of_methodNamed B.named
  have hlocks := B.notSynchronized
  have hK1 : va_K (dC, dI) vwCl (tM cA) s := hK
  have hD : ∀ c, va_D (fA 15 ad s.heap.size) (wM ad cA c) := fun c => dM_ok hap cA c _
  have hS : va_S (fA 15 ad s.heap.size) s.heap s.heap [] := va_S.rf
  have i5 : ∀ w ∈ u_ws RX5 TX5 27, w ∈ wsX5_full := by decide +kernel
  have f108 := hts (.fieldLink RX5 108 "StickyHeapModel" "gone" "I") (by decide +kernel)
  have f118 := hts (.fieldLink RX5 118 "StickyHeapModel" "fulls" "I") (by decide +kernel)
  have hl := lv_entry [.ref (ad 0)] (n := 2) (Nat.le_of_ble_eq_true rfl)
  rw [lg_entry_eq]
  generalize (lg_sl [.ref (ad 0)] ++ List.replicate (2 - (lg_sl [.ref (ad 0)]).length) Slot.unset).toArray = ls at hl ⊢
  have hl : lv_has ls 2 [(0, .ref (ad 0))] := hl
  have hP : va_P (dC, dI) vwCl (wM ad cA c) s.heap := hP
  unfold pX5_full at hM
  refine lv_aload_n hx hb dX5_full_0 rfl (lv_at hl 0 rfl) ?_
  refine lv_iconst (v := 1) hx hb dX5_full_1 (by decide) ?_
  obtain ⟨r3, c2, h1, hM⟩ := bd2_some sm_ne hM
  refine gCi (gV (As := [.int 1]) (rest := []) ⟨hx, hb, hml, hown, hts⟩ (kX5_collect l dC dI ad cA hap _ c 1 _ _ h1) (cwV 1 hts gX5_full_X5_collect rfl rfl rfl (by decide +kernel) ⟨Nat.le_of_ble_eq_true rfl, Nat.le_of_ble_eq_true rfl⟩) (kM_st _ _) hK hP (va_recv hK1 hP (ci := 5) (q0 := 0) rfl rfl) rfl hl.1 rfl (Nat.le_of_ble_eq_true rfl) dX5_full_2 ⟨Nat.zero_le _, Nat.zero_le _⟩) hS (fun H locs hP hS => ?_)
  refine lv_istore_n (lv' := [(1, .int r3), (0, .ref (ad 0))]) hx hb dX5_full_5 rfl hl (by decide) rfl (fun ls hl => ?_)
  refine lv_aload_n hx hb dX5_full_6 rfl (lv_at hl 1 rfl) ?_
  refine lv_dup hx hb dX5_full_7 rfl ?_
  refine gget (v := .int (c2.1 0 10)) hx hb hts i5 hown hK1 hP 0 rfl rfl 23 (by decide) f118 rfl rfl dX5_full_8 ?_
  refine lv_iconst (v := 1) hx hb dX5_full_11 (by decide) ?_
  refine lv_iadd hx hb dX5_full_12 ?_
  obtain ⟨c4, hc4, hM⟩ := pfA_some hM
  refine gput (w := wM ad cA) (c := c2) (c1 := c4) (v := .int ((c2.1 0 10) + 1)) hx hb hts i5 tyX5 tyX5_ok nmX5 hown hK1 hP (hD c2) hS 0 rfl rfl 23 (by decide) f118 rfl rfl rfl rfl (Nat.le_of_ble_eq_true rfl) (by rw [hc4]; rfl) dX5_full_13 (fun H locs hP hS => ?_)
  refine lv_aload_n hx hb dX5_full_16 rfl (lv_at hl 1 rfl) ?_
  refine lv_dup hx hb dX5_full_17 rfl ?_
  refine gget (v := .int (c4.1 0 8)) hx hb hts i5 hown hK1 hP 0 rfl rfl 21 (by decide) f108 rfl rfl dX5_full_18 ?_
  refine lv_iload_n hx hb dX5_full_21 rfl (lv_at hl 0 rfl) ?_
  refine lv_iadd hx hb dX5_full_22 ?_
  obtain ⟨c5, hc5, hM⟩ := pfA_some hM
  refine gput (w := wM ad cA) (c := c4) (c1 := c5) (v := .int ((c4.1 0 8) + r3)) hx hb hts i5 tyX5 tyX5_ok nmX5 hown hK1 hP (hD c4) hS 0 rfl rfl 21 (by decide) f108 rfl rfl rfl rfl (Nat.le_of_ble_eq_true rfl) (by rw [hc5]; rfl) dX5_full_23 (fun H locs hP hS => ?_)
  refine lv_iload_n hx hb dX5_full_26 rfl (lv_at hl 0 rfl) ?_
  exact W.iret hx hb hr (fun t ht hW => ⟨⟨_, _, rfl, pr2 hM, hPt ht hP⟩, hS.F ht⟩) hS.2.2 dX5_full_27
set_option maxHeartbeats 4000000 in
set_option maxRecDepth 100000 in
theorem kX5_logged (l : Launch) (dC : Nat → ClassId) (dI : Nat → Nat → Nat) (ad : Nat → Nat) (cA : Nat → ClassId) (hap : apart 15 ad) (sz : Nat) (c : HS) (a1 : Int32) (r0 : Int32) (hM : pX5_logged c a1 = some r0) : Met l yX5_logged wsX5_logged ({ frames := 1, cells := 0, slots := 0, locals := 22 }) (gP (dC, dI) (wM ad cA) (kM (dC, dI) cA) c sz [.ref (ad 0), .int a1]) (gQi (dC, dI) (wM ad cA) (fA 15 ad sz) r0 c) 0 0 (fA 15 ad sz) := by
  refine Met.ofW (cc := cX5_logged) (maxL := 2) (ret := (some .int)) (by decide) rfl ?_
  intro p e s m args below meth cd s₁ B hml hv
  obtain ⟨rfl, rfl, hP, hK⟩ := hv
  have hx := B.exec
  have hb := B.bytes
  have hr := B.returns
  have hts := atoms_spec (ws := wsX5_logged) B.pre
  have hown : s.vm.findClass RX5 = some m.cls := findClass_of_methodNamed B.named
  have hlocks := B.notSynchronized
  have hK1 : va_K (dC, dI) vwCl (tM cA) s := hK
  have hD : ∀ c, va_D (fA 15 ad s.heap.size) (wM ad cA c) := fun c => dM_ok hap cA c _
  have hS : va_S (fA 15 ad s.heap.size) s.heap s.heap [] := va_S.rf
  have i5 : ∀ w ∈ u_ws RX5 TX5 27, w ∈ wsX5_logged := by decide +kernel
  have f51 := hts (.fieldLink RX5 51 "StickyHeapModel" "log" "[I") (by decide +kernel)
  have f72 := hts (.fieldLink RX5 72 "StickyHeapModel" "logged" "I") (by decide +kernel)
  have hl := lv_entry [.ref (ad 0), .int a1] (n := 2) (Nat.le_of_ble_eq_true rfl)
  rw [lg_entry_eq]
  generalize (lg_sl [.ref (ad 0), .int a1] ++ List.replicate (2 - (lg_sl [.ref (ad 0), .int a1]).length) Slot.unset).toArray = ls at hl ⊢
  have hl : lv_has ls 2 [(0, .ref (ad 0)), (1, .int a1)] := hl
  have hP : va_P (dC, dI) vwCl (wM ad cA c) s.heap := hP
  unfold pX5_logged at hM
  refine lv_iload_n hx hb dX5_logged_0 rfl (lv_at hl 1 rfl) ?_
  refine lv_iconst (v := 0) hx hb dX5_logged_1 (by decide) ?_
  refine lv_aload_n hx hb dX5_logged_2 rfl (lv_at hl 0 rfl) ?_
  refine gget (v := .int (c.1 0 2)) hx hb hts i5 hown hK1 hP 0 rfl rfl 15 (by decide) f72 rfl rfl dX5_logged_3 ?_
  refine lv_iconst (v := 1) hx hb dX5_logged_6 (by decide) ?_
  refine lv_isub hx hb dX5_logged_7 ?_
  refine gCi (gS (As := [.int a1, .int 0, .int ((c.1 0 2) - 1)]) (rest := []) ⟨hx, hb, hml, hown, hts⟩ (kX5_in l dC dI ad cA hap _ c a1 0 ((c.1 0 2) - 1) _ rfl) (va_cwS 3 hts gX5_logged_X5_in rfl rfl rfl (by decide +kernel) ⟨Nat.le_of_ble_eq_true rfl, Nat.le_of_ble_eq_true rfl⟩) (kM_st _ _) hK hP rfl hl.1 rfl (Nat.le_of_ble_eq_true rfl) dX5_logged_8 ⟨Nat.zero_le _, Nat.zero_le _⟩) hS (fun H locs hP hS => ?_)
  refine lv_if_eq (tgt := 23) hx hb dX5_logged_11 (by decide) (fun e3 => ?_) (fun e3 => ?_)
  · have hM := it_p e3 hM
    refine lv_iconst (v := (-1)) hx hb dX5_logged_23 (by decide) ?_
    exact W.iret hx hb hr (fun t ht hW => ⟨⟨_, _, rfl, ⟨pr1 hM, rfl⟩, hPt ht hP⟩, hS.F ht⟩) hS.2.2 dX5_logged_24
  · have hM := it_n e3 hM
    refine lv_aload_n hx hb dX5_logged_14 rfl (lv_at hl 0 rfl) ?_
    refine gget (v := .ref (ad 13)) hx hb hts i5 hown hK1 hP 0 rfl rfl 14 (by decide) f51 rfl rfl dX5_logged_15 ?_
    refine lv_iload_n hx hb dX5_logged_18 rfl (lv_at hl 1 rfl) ?_
    obtain ⟨h2, x1, hx1, hM⟩ := ldA_some sm_ne hM
    refine gald hx hb hK1 hP 13 12 rfl rfl h2 hx1 dX5_logged_19 ?_
    refine lv_goto (tgt := 24) hx hb dX5_logged_20 (by decide) ?_
    exact W.iret hx hb hr (fun t ht hW => ⟨⟨_, _, rfl, ⟨pr1 hM, rfl⟩, hPt ht hP⟩, hS.F ht⟩) hS.2.2 dX5_logged_24
set_option maxHeartbeats 4000000 in
set_option maxRecDepth 100000 in
theorem kX5_olds (l : Launch) (dC : Nat → ClassId) (dI : Nat → Nat → Nat) (ad : Nat → Nat) (cA : Nat → ClassId) (hap : apart 15 ad) (sz : Nat) (c : HS) (a1 : Int32) (r0 : Int32) (hM : pX5_olds c a1 = some r0) : Met l yX5_olds wsX5_olds ({ frames := 0, cells := 0, slots := 0, locals := 0 }) (gP (dC, dI) (wM ad cA) (kM (dC, dI) cA) c sz [.ref (ad 0), .int a1]) (gQi (dC, dI) (wM ad cA) (fA 15 ad sz) r0 c) 0 0 (fA 15 ad sz) := by
  refine Met.ofW (cc := cX5_olds) (maxL := 4) (ret := (some .int)) (by decide) rfl ?_
  intro p e s m args below meth cd s₁ B hml hv
  obtain ⟨rfl, rfl, hP, hK⟩ := hv
  have hx := B.exec
  have hb := B.bytes
  have hr := B.returns
  have hts := atoms_spec (ws := wsX5_olds) B.pre
  have hown : s.vm.findClass RX5 = some m.cls := findClass_of_methodNamed B.named
  have hlocks := B.notSynchronized
  have hK1 : va_K (dC, dI) vwCl (tM cA) s := hK
  have hD : ∀ c, va_D (fA 15 ad s.heap.size) (wM ad cA c) := fun c => dM_ok hap cA c _
  have hS : va_S (fA 15 ad s.heap.size) s.heap s.heap [] := va_S.rf
  have i5 : ∀ w ∈ u_ws RX5 TX5 27, w ∈ wsX5_olds := by decide +kernel
  have f30 := hts (.fieldLink RX5 30 "StickyHeapModel" "begins" "[Z") (by decide +kernel)
  have f33 := hts (.fieldLink RX5 33 "StickyHeapModel" "isOld" "[Z") (by decide +kernel)
  have L7 : ∀ (n : Nat) (v1 : Int32) (v2 : Int32) (v3 : Int32) (H : Heap) (locs : List Loc) (ls : Array Slot), pX5_olds_7 c n v1 v2 v3 = some r0 → va_P (dC, dI) vwCl (wM ad cA c) H → va_S (fA 15 ad s.heap.size) s.heap H locs → lv_has ls 4 [(0, .ref (ad 0)), (1, .int v1), (2, .int v2), (3, .int v3)] → W p l e (headSpec wsX5_olds ({ frames := 0, cells := 0, slots := 0, locals := 0 })).room s m ([.ref (ad 0), .int a1]).toArray below meth cd H locs 0 0 (MQ below (gQi (dC, dI) (wM ad cA) (fA 15 ad s.heap.size) r0 c) ([.ref (ad 0), .int a1]).toArray s 0 0 (fA 15 ad s.heap.size)) (F0 m 7 ls []) := by
    intro n
    induction n with
    | zero =>
      intro v1 v2 v3 H locs ls hM
      exact absurd (Eq.symm (hM : none = some r0)) sm_ne
    | succ n7 ih7 =>
      intro v1 v2 v3 H locs ls hM hP hS hl
      unfold pX5_olds_7 at hM
      refine lv_iload_n hx hb dX5_olds_7 rfl (lv_at hl 3 rfl) ?_
      refine lv_bipush (v := 64) hx hb dX5_olds_8 (by decide) ?_
      refine lv_iload_n hx hb dX5_olds_10 rfl (lv_at hl 1 rfl) ?_
      refine lv_imul hx hb dX5_olds_11 ?_
      refine lv_bipush (v := 64) hx hb dX5_olds_12 (by decide) ?_
      refine lv_iadd hx hb dX5_olds_14 ?_
      refine lv_icmp_ge (tgt := 50) hx hb dX5_olds_15 (by decide) (fun e7 => ?_) (fun e7 => ?_)
      · have hM := it_p e7 hM
        refine lv_iload_n hx hb dX5_olds_50 rfl (lv_at hl 2 rfl) ?_
        exact W.iret hx hb hr (fun t ht hW => ⟨⟨_, _, rfl, ⟨pr1 hM, rfl⟩, hPt ht hP⟩, hS.F ht⟩) hS.2.2 dX5_olds_51
      · have hM := it_n e7 hM
        refine lv_iload_n hx hb dX5_olds_18 rfl (lv_at hl 2 rfl) ?_
        refine lv_aload_n hx hb dX5_olds_19 rfl (lv_at hl 0 rfl) ?_
        refine gget (v := .ref (ad 6)) hx hb hts i5 hown hK1 hP 0 rfl rfl 6 (by decide) f30 rfl rfl dX5_olds_20 ?_
        refine lv_iload_n hx hb dX5_olds_23 rfl (lv_at hl 3 rfl) ?_
        obtain ⟨h2, x1, hx1, hM⟩ := ldA_some sm_ne hM
        refine gzld hx hb hK1 hP 6 5 rfl rfl h2 hx1 dX5_olds_24 ?_
        refine lv_if_eq (tgt := 41) hx hb dX5_olds_25 (by decide) (fun e6 => ?_) (fun e6 => ?_)
        · have hM := it_p e6 hM
          refine lv_iconst (v := 0) hx hb dX5_olds_41 (by decide) ?_
          refine lv_iadd hx hb dX5_olds_42 ?_
          refine lv_istore_n (lv' := [(2, .int (v2 + 0)), (0, .ref (ad 0)), (1, .int v1), (3, .int v3)]) hx hb dX5_olds_43 rfl hl (by decide) rfl (fun ls hl => ?_)
          refine lv_iinc (v := v3 + 1) (lv' := [(3, .int (v3 + 1)), (2, .int (v2 + 0)), (0, .ref (ad 0)), (1, .int v1)]) hx hb dX5_olds_44 hl (k := 3) rfl rfl (by decide) rfl (fun ls hl => ?_)
          refine lv_goto (tgt := 7) hx hb dX5_olds_47 (by decide) ?_
          exact ih7 _ _ _ _ _ _ hM hP hS (lv_sub hl [2, 3, 1, 0] rfl)
        · have hM := it_n e6 hM
          refine lv_aload_n hx hb dX5_olds_28 rfl (lv_at hl 0 rfl) ?_
          refine gget (v := .ref (ad 7)) hx hb hts i5 hown hK1 hP 0 rfl rfl 7 (by decide) f33 rfl rfl dX5_olds_29 ?_
          refine lv_iload_n hx hb dX5_olds_32 rfl (lv_at hl 3 rfl) ?_
          obtain ⟨h4, x3, hx3, hM⟩ := ldA_some sm_ne hM
          refine gzld hx hb hK1 hP 7 6 rfl rfl h4 hx3 dX5_olds_33 ?_
          refine lv_if_eq (tgt := 41) hx hb dX5_olds_34 (by decide) (fun e5 => ?_) (fun e5 => ?_)
          · have hM := it_p e5 hM
            refine lv_iconst (v := 0) hx hb dX5_olds_41 (by decide) ?_
            refine lv_iadd hx hb dX5_olds_42 ?_
            refine lv_istore_n (lv' := [(2, .int (v2 + 0)), (0, .ref (ad 0)), (1, .int v1), (3, .int v3)]) hx hb dX5_olds_43 rfl hl (by decide) rfl (fun ls hl => ?_)
            refine lv_iinc (v := v3 + 1) (lv' := [(3, .int (v3 + 1)), (2, .int (v2 + 0)), (0, .ref (ad 0)), (1, .int v1)]) hx hb dX5_olds_44 hl (k := 3) rfl rfl (by decide) rfl (fun ls hl => ?_)
            refine lv_goto (tgt := 7) hx hb dX5_olds_47 (by decide) ?_
            exact ih7 _ _ _ _ _ _ hM hP hS (lv_sub hl [2, 3, 1, 0] rfl)
          · have hM := it_n e5 hM
            refine lv_iconst (v := 1) hx hb dX5_olds_37 (by decide) ?_
            refine lv_goto (tgt := 42) hx hb dX5_olds_38 (by decide) ?_
            refine lv_iadd hx hb dX5_olds_42 ?_
            refine lv_istore_n (lv' := [(2, .int (v2 + 1)), (0, .ref (ad 0)), (1, .int v1), (3, .int v3)]) hx hb dX5_olds_43 rfl hl (by decide) rfl (fun ls hl => ?_)
            refine lv_iinc (v := v3 + 1) (lv' := [(3, .int (v3 + 1)), (2, .int (v2 + 1)), (0, .ref (ad 0)), (1, .int v1)]) hx hb dX5_olds_44 hl (k := 3) rfl rfl (by decide) rfl (fun ls hl => ?_)
            refine lv_goto (tgt := 7) hx hb dX5_olds_47 (by decide) ?_
            exact ih7 _ _ _ _ _ _ hM hP hS (lv_sub hl [2, 3, 1, 0] rfl)
  have hl := lv_entry [.ref (ad 0), .int a1] (n := 4) (Nat.le_of_ble_eq_true rfl)
  rw [lg_entry_eq]
  generalize (lg_sl [.ref (ad 0), .int a1] ++ List.replicate (4 - (lg_sl [.ref (ad 0), .int a1]).length) Slot.unset).toArray = ls at hl ⊢
  have hl : lv_has ls 4 [(0, .ref (ad 0)), (1, .int a1)] := hl
  have hP : va_P (dC, dI) vwCl (wM ad cA c) s.heap := hP
  unfold pX5_olds at hM
  refine lv_iconst (v := 0) hx hb dX5_olds_0 (by decide) ?_
  refine lv_istore_n (lv' := [(2, .int 0), (0, .ref (ad 0)), (1, .int a1)]) hx hb dX5_olds_1 rfl hl (by decide) rfl (fun ls hl => ?_)
  refine lv_bipush (v := 64) hx hb dX5_olds_2 (by decide) ?_
  refine lv_iload_n hx hb dX5_olds_4 rfl (lv_at hl 2 rfl) ?_
  refine lv_imul hx hb dX5_olds_5 ?_
  refine lv_istore_n (lv' := [(3, .int (64 * a1)), (2, .int 0), (0, .ref (ad 0)), (1, .int a1)]) hx hb dX5_olds_6 rfl hl (by decide) rfl (fun ls hl => ?_)
  exact L7 _ _ _ _ _ _ _ hM hP hS (lv_sub hl [2, 3, 1, 0] rfl)
set_option maxHeartbeats 4000000 in
set_option maxRecDepth 100000 in
theorem kX5_block (l : Launch) (dC : Nat → ClassId) (dI : Nat → Nat → Nat) (ad : Nat → Nat) (cA : Nat → ClassId) (hap : apart 15 ad) (sz : Nat) (c : HS) (a1 : Int32) (a2 : Int32) (r0 : Int32) (hM : pX5_block c a1 a2 = some r0) : Met l yX5_block wsX5_block ({ frames := 2, cells := 0, slots := 0, locals := 42 }) (gP (dC, dI) (wM ad cA) (kM (dC, dI) cA) c sz [.ref (ad 0), .int a1, .int a2]) (gQi (dC, dI) (wM ad cA) (fA 15 ad sz) r0 c) 0 0 (fA 15 ad sz) := by
  refine Met.ofW (cc := cX5_block) (maxL := 3) (ret := (some .int)) (by decide) rfl ?_
  intro p e s m args below meth cd s₁ B hml hv
  obtain ⟨rfl, rfl, hP, hK⟩ := hv
  have hx := B.exec
  have hb := B.bytes
  have hr := B.returns
  have hts := atoms_spec (ws := wsX5_block) B.pre
  have hown : s.vm.findClass RX5 = some m.cls := findClass_of_methodNamed B.named
  have hlocks := B.notSynchronized
  have hK1 : va_K (dC, dI) vwCl (tM cA) s := hK
  have hD : ∀ c, va_D (fA 15 ad s.heap.size) (wM ad cA c) := fun c => dM_ok hap cA c _
  have hS : va_S (fA 15 ad s.heap.size) s.heap s.heap [] := va_S.rf
  have i5 : ∀ w ∈ u_ws RX5 TX5 27, w ∈ wsX5_block := by decide +kernel
  have f7 := hts (.fieldLink RX5 7 "StickyHeapModel" "blocks" "I") (by decide +kernel)
  have f13 := hts (.fieldLink RX5 13 "StickyHeapModel" "sorts" "[I") (by decide +kernel)
  have f17 := hts (.fieldLink RX5 17 "StickyHeapModel" "classes" "[I") (by decide +kernel)
  have f20 := hts (.fieldLink RX5 20 "StickyHeapModel" "dirty" "[Z") (by decide +kernel)
  have f24 := hts (.fieldLink RX5 24 "StickyHeapModel" "barred" "[Z") (by decide +kernel)
  have hl := lv_entry [.ref (ad 0), .int a1, .int a2] (n := 3) (Nat.le_of_ble_eq_true rfl)
  rw [lg_entry_eq]
  generalize (lg_sl [.ref (ad 0), .int a1, .int a2] ++ List.replicate (3 - (lg_sl [.ref (ad 0), .int a1, .int a2]).length) Slot.unset).toArray = ls at hl ⊢
  have hl : lv_has ls 3 [(0, .ref (ad 0)), (1, .int a1), (2, .int a2)] := hl
  have hP : va_P (dC, dI) vwCl (wM ad cA c) s.heap := hP
  unfold pX5_block at hM
  refine lv_iload_n hx hb dX5_block_0 rfl (lv_at hl 1 rfl) ?_
  refine lv_iconst (v := 0) hx hb dX5_block_1 (by decide) ?_
  refine lv_aload_n hx hb dX5_block_2 rfl (lv_at hl 0 rfl) ?_
  refine gget (v := .int (c.1 0 0)) hx hb hts i5 hown hK1 hP 0 rfl rfl 0 (by decide) f7 rfl rfl dX5_block_3 ?_
  refine lv_iconst (v := 1) hx hb dX5_block_6 (by decide) ?_
  refine lv_isub hx hb dX5_block_7 ?_
  refine gCi (gS (As := [.int a1, .int 0, .int ((c.1 0 0) - 1)]) (rest := []) ⟨hx, hb, hml, hown, hts⟩ (kX5_in l dC dI ad cA hap _ c a1 0 ((c.1 0 0) - 1) _ rfl) (va_cwS 3 hts gX5_block_X5_in rfl rfl rfl (by decide +kernel) ⟨Nat.le_of_ble_eq_true rfl, Nat.le_of_ble_eq_true rfl⟩) (kM_st _ _) hK hP rfl hl.1 rfl (Nat.le_of_ble_eq_true rfl) dX5_block_8 ⟨Nat.zero_le _, Nat.zero_le _⟩) hS (fun H locs hP hS => ?_)
  refine lv_if_ne (tgt := 17) hx hb dX5_block_11 (by decide) (fun e35 => ?_) (fun e35 => ?_)
  · have hM := it_n e35 hM
    refine lv_iload_n hx hb dX5_block_17 rfl (lv_at hl 2 rfl) ?_
    by_cases e18_0 : a2 = 0
    · have hM := it_p e18_0 hM
      refine lv_tableIn (off := 38) (tgt := 56) hx hb dX5_block_18 (by rw [e18_0]; decide) (by rw [e18_0]; decide) (by rw [e18_0]; rfl) (by decide) ?_
      refine lv_aload_n hx hb dX5_block_56 rfl (lv_at hl 0 rfl) ?_
      refine gget (v := .ref (ad 1)) hx hb hts i5 hown hK1 hP 0 rfl rfl 1 (by decide) f13 rfl rfl dX5_block_57 ?_
      refine lv_iload_n hx hb dX5_block_60 rfl (lv_at hl 1 rfl) ?_
      obtain ⟨h2, x1, hx1, hM⟩ := ldA_some sm_ne hM
      refine gald hx hb hK1 hP 1 0 rfl rfl h2 hx1 dX5_block_61 ?_
      exact W.iret hx hb hr (fun t ht hW => ⟨⟨_, _, rfl, ⟨pr1 hM, rfl⟩, hPt ht hP⟩, hS.F ht⟩) hS.2.2 dX5_block_62
    have hM := it_n e18_0 hM
    by_cases e18_1 : a2 = 1
    · have hM := it_p e18_1 hM
      refine lv_tableIn (off := 45) (tgt := 63) hx hb dX5_block_18 (by rw [e18_1]; decide) (by rw [e18_1]; decide) (by rw [e18_1]; rfl) (by decide) ?_
      refine lv_aload_n hx hb dX5_block_63 rfl (lv_at hl 0 rfl) ?_
      refine gget (v := .ref (ad 1)) hx hb hts i5 hown hK1 hP 0 rfl rfl 1 (by decide) f13 rfl rfl dX5_block_64 ?_
      refine lv_iload_n hx hb dX5_block_67 rfl (lv_at hl 1 rfl) ?_
      obtain ⟨h4, x3, hx3, hM⟩ := ldA_some sm_ne hM
      refine gald hx hb hK1 hP 1 0 rfl rfl h4 hx3 dX5_block_68 ?_
      refine lv_iconst (v := 1) hx hb dX5_block_69 (by decide) ?_
      refine lv_icmp_ne (tgt := 82) hx hb dX5_block_70 (by decide) (fun e12 => ?_) (fun e12 => ?_)
      · have hM := it_n e12 hM
        refine lv_aload_n hx hb dX5_block_82 rfl (lv_at hl 0 rfl) ?_
        refine gget (v := .ref (ad 1)) hx hb hts i5 hown hK1 hP 0 rfl rfl 1 (by decide) f13 rfl rfl dX5_block_83 ?_
        refine lv_iload_n hx hb dX5_block_86 rfl (lv_at hl 1 rfl) ?_
        obtain ⟨h6, x5, hx5, hM⟩ := ldA_some sm_ne hM
        refine gald hx hb hK1 hP 1 0 rfl rfl h6 hx5 dX5_block_87 ?_
        refine lv_iconst (v := 2) hx hb dX5_block_88 (by decide) ?_
        refine lv_icmp_ne (tgt := 103) hx hb dX5_block_89 (by decide) (fun e9 => ?_) (fun e9 => ?_)
        · have hM := it_n e9 hM
          refine lv_iconst (v := 0) hx hb dX5_block_103 (by decide) ?_
          exact W.iret hx hb hr (fun t ht hW => ⟨⟨_, _, rfl, ⟨pr1 hM, rfl⟩, hPt ht hP⟩, hS.F ht⟩) hS.2.2 dX5_block_104
        · have hM := it_p e9 hM
          refine lv_aload_n hx hb dX5_block_92 rfl (lv_at hl 0 rfl) ?_
          refine lv_bipush (v := 64) hx hb dX5_block_93 (by decide) ?_
          refine lv_iload_n hx hb dX5_block_95 rfl (lv_at hl 1 rfl) ?_
          refine lv_imul hx hb dX5_block_96 ?_
          obtain ⟨r8, h7, hM⟩ := bd1_some sm_ne hM
          refine gCi (gV (As := [.int (64 * a1)]) (rest := []) ⟨hx, hb, hml, hown, hts⟩ (kX5_blocksOf l dC dI ad cA hap _ c (64 * a1) _ h7) (cwV 1 hts gX5_block_X5_blocksOf rfl rfl rfl (by decide +kernel) ⟨Nat.le_of_ble_eq_true rfl, Nat.le_of_ble_eq_true rfl⟩) (kM_st _ _) hK hP (va_recv hK1 hP (ci := 5) (q0 := 0) rfl rfl) rfl hl.1 rfl (Nat.le_of_ble_eq_true rfl) dX5_block_97 ⟨Nat.zero_le _, Nat.zero_le _⟩) hS (fun H locs hP hS => ?_)
          refine lv_goto (tgt := 104) hx hb dX5_block_100 (by decide) ?_
          exact W.iret hx hb hr (fun t ht hW => ⟨⟨_, _, rfl, ⟨pr1 hM, rfl⟩, hPt ht hP⟩, hS.F ht⟩) hS.2.2 dX5_block_104
      · have hM := it_p e12 hM
        refine lv_aload_n hx hb dX5_block_73 rfl (lv_at hl 0 rfl) ?_
        refine gget (v := .ref (ad 2)) hx hb hts i5 hown hK1 hP 0 rfl rfl 2 (by decide) f17 rfl rfl dX5_block_74 ?_
        refine lv_iload_n hx hb dX5_block_77 rfl (lv_at hl 1 rfl) ?_
        obtain ⟨h11, x10, hx10, hM⟩ := ldA_some sm_ne hM
        refine gald hx hb hK1 hP 2 1 rfl rfl h11 hx10 dX5_block_78 ?_
        refine lv_goto (tgt := 104) hx hb dX5_block_79 (by decide) ?_
        exact W.iret hx hb hr (fun t ht hW => ⟨⟨_, _, rfl, ⟨pr1 hM, rfl⟩, hPt ht hP⟩, hS.F ht⟩) hS.2.2 dX5_block_104
    have hM := it_n e18_1 hM
    by_cases e18_2 : a2 = 2
    · have hM := it_p e18_2 hM
      refine lv_tableIn (off := 87) (tgt := 105) hx hb dX5_block_18 (by rw [e18_2]; decide) (by rw [e18_2]; decide) (by rw [e18_2]; rfl) (by decide) ?_
      refine lv_aload_n hx hb dX5_block_105 rfl (lv_at hl 0 rfl) ?_
      refine gget (v := .ref (ad 1)) hx hb hts i5 hown hK1 hP 0 rfl rfl 1 (by decide) f13 rfl rfl dX5_block_106 ?_
      refine lv_iload_n hx hb dX5_block_109 rfl (lv_at hl 1 rfl) ?_
      obtain ⟨h14, x13, hx13, hM⟩ := ldA_some sm_ne hM
      refine gald hx hb hK1 hP 1 0 rfl rfl h14 hx13 dX5_block_110 ?_
      refine lv_if_eq (tgt := 124) hx hb dX5_block_111 (by decide) (fun e20 => ?_) (fun e20 => ?_)
      · have hM := it_p e20 hM
        refine lv_iconst (v := 0) hx hb dX5_block_124 (by decide) ?_
        refine lv_goto (tgt := 133) hx hb dX5_block_125 (by decide) ?_
        exact W.iret hx hb hr (fun t ht hW => ⟨⟨_, _, rfl, ⟨pr1 hM, rfl⟩, hPt ht hP⟩, hS.F ht⟩) hS.2.2 dX5_block_133
      · have hM := it_n e20 hM
        refine lv_aload_n hx hb dX5_block_114 rfl (lv_at hl 0 rfl) ?_
        refine gget (v := .ref (ad 1)) hx hb hts i5 hown hK1 hP 0 rfl rfl 1 (by decide) f13 rfl rfl dX5_block_115 ?_
        refine lv_iload_n hx hb dX5_block_118 rfl (lv_at hl 1 rfl) ?_
        obtain ⟨h16, x15, hx15, hM⟩ := ldA_some sm_ne hM
        refine gald hx hb hK1 hP 1 0 rfl rfl h16 hx15 dX5_block_119 ?_
        refine lv_iconst (v := 3) hx hb dX5_block_120 (by decide) ?_
        refine lv_icmp_ne (tgt := 128) hx hb dX5_block_121 (by decide) (fun e19 => ?_) (fun e19 => ?_)
        · have hM := it_n e19 hM
          refine lv_aload_n hx hb dX5_block_128 rfl (lv_at hl 0 rfl) ?_
          refine lv_iload_n hx hb dX5_block_129 rfl (lv_at hl 1 rfl) ?_
          obtain ⟨r18, h17, hM⟩ := bd1_some sm_ne hM
          refine gCi (gV (As := [.int a1]) (rest := []) ⟨hx, hb, hml, hown, hts⟩ (kX5_used l dC dI ad cA hap _ c a1 _ h17) (cwV 1 hts gX5_block_X5_used rfl rfl rfl (by decide +kernel) ⟨Nat.le_of_ble_eq_true rfl, Nat.le_of_ble_eq_true rfl⟩) (kM_st _ _) hK hP (va_recv hK1 hP (ci := 5) (q0 := 0) rfl rfl) rfl hl.1 rfl (Nat.le_of_ble_eq_true rfl) dX5_block_130 ⟨Nat.zero_le _, Nat.zero_le _⟩) hS (fun H locs hP hS => ?_)
          exact W.iret hx hb hr (fun t ht hW => ⟨⟨_, _, rfl, ⟨pr1 hM, rfl⟩, hPt ht hP⟩, hS.F ht⟩) hS.2.2 dX5_block_133
        · have hM := it_p e19 hM
          refine lv_iconst (v := 0) hx hb dX5_block_124 (by decide) ?_
          refine lv_goto (tgt := 133) hx hb dX5_block_125 (by decide) ?_
          exact W.iret hx hb hr (fun t ht hW => ⟨⟨_, _, rfl, ⟨pr1 hM, rfl⟩, hPt ht hP⟩, hS.F ht⟩) hS.2.2 dX5_block_133
    have hM := it_n e18_2 hM
    by_cases e18_3 : a2 = 3
    · have hM := it_p e18_3 hM
      refine lv_tableIn (off := 116) (tgt := 134) hx hb dX5_block_18 (by rw [e18_3]; decide) (by rw [e18_3]; decide) (by rw [e18_3]; rfl) (by decide) ?_
      refine lv_aload_n hx hb dX5_block_134 rfl (lv_at hl 0 rfl) ?_
      refine gget (v := .ref (ad 1)) hx hb hts i5 hown hK1 hP 0 rfl rfl 1 (by decide) f13 rfl rfl dX5_block_135 ?_
      refine lv_iload_n hx hb dX5_block_138 rfl (lv_at hl 1 rfl) ?_
      obtain ⟨h22, x21, hx21, hM⟩ := ldA_some sm_ne hM
      refine gald hx hb hK1 hP 1 0 rfl rfl h22 hx21 dX5_block_139 ?_
      refine lv_if_eq (tgt := 153) hx hb dX5_block_140 (by decide) (fun e28 => ?_) (fun e28 => ?_)
      · have hM := it_p e28 hM
        refine lv_iconst (v := 0) hx hb dX5_block_153 (by decide) ?_
        refine lv_goto (tgt := 162) hx hb dX5_block_154 (by decide) ?_
        exact W.iret hx hb hr (fun t ht hW => ⟨⟨_, _, rfl, ⟨pr1 hM, rfl⟩, hPt ht hP⟩, hS.F ht⟩) hS.2.2 dX5_block_162
      · have hM := it_n e28 hM
        refine lv_aload_n hx hb dX5_block_143 rfl (lv_at hl 0 rfl) ?_
        refine gget (v := .ref (ad 1)) hx hb hts i5 hown hK1 hP 0 rfl rfl 1 (by decide) f13 rfl rfl dX5_block_144 ?_
        refine lv_iload_n hx hb dX5_block_147 rfl (lv_at hl 1 rfl) ?_
        obtain ⟨h24, x23, hx23, hM⟩ := ldA_some sm_ne hM
        refine gald hx hb hK1 hP 1 0 rfl rfl h24 hx23 dX5_block_148 ?_
        refine lv_iconst (v := 3) hx hb dX5_block_149 (by decide) ?_
        refine lv_icmp_ne (tgt := 157) hx hb dX5_block_150 (by decide) (fun e27 => ?_) (fun e27 => ?_)
        · have hM := it_n e27 hM
          refine lv_aload_n hx hb dX5_block_157 rfl (lv_at hl 0 rfl) ?_
          refine lv_iload_n hx hb dX5_block_158 rfl (lv_at hl 1 rfl) ?_
          obtain ⟨r26, h25, hM⟩ := bd1_some sm_ne hM
          refine gCi (gV (As := [.int a1]) (rest := []) ⟨hx, hb, hml, hown, hts⟩ (kX5_olds l dC dI ad cA hap _ c a1 _ h25) (cwV 1 hts gX5_block_X5_olds rfl rfl rfl (by decide +kernel) ⟨Nat.le_of_ble_eq_true rfl, Nat.le_of_ble_eq_true rfl⟩) (kM_st _ _) hK hP (va_recv hK1 hP (ci := 5) (q0 := 0) rfl rfl) rfl hl.1 rfl (Nat.le_of_ble_eq_true rfl) dX5_block_159 ⟨Nat.zero_le _, Nat.zero_le _⟩) hS (fun H locs hP hS => ?_)
          exact W.iret hx hb hr (fun t ht hW => ⟨⟨_, _, rfl, ⟨pr1 hM, rfl⟩, hPt ht hP⟩, hS.F ht⟩) hS.2.2 dX5_block_162
        · have hM := it_p e27 hM
          refine lv_iconst (v := 0) hx hb dX5_block_153 (by decide) ?_
          refine lv_goto (tgt := 162) hx hb dX5_block_154 (by decide) ?_
          exact W.iret hx hb hr (fun t ht hW => ⟨⟨_, _, rfl, ⟨pr1 hM, rfl⟩, hPt ht hP⟩, hS.F ht⟩) hS.2.2 dX5_block_162
    have hM := it_n e18_3 hM
    by_cases e18_4 : a2 = 4
    · have hM := it_p e18_4 hM
      refine lv_tableIn (off := 145) (tgt := 163) hx hb dX5_block_18 (by rw [e18_4]; decide) (by rw [e18_4]; decide) (by rw [e18_4]; rfl) (by decide) ?_
      refine lv_aload_n hx hb dX5_block_163 rfl (lv_at hl 0 rfl) ?_
      refine gget (v := .ref (ad 3)) hx hb hts i5 hown hK1 hP 0 rfl rfl 3 (by decide) f20 rfl rfl dX5_block_164 ?_
      refine lv_iload_n hx hb dX5_block_167 rfl (lv_at hl 1 rfl) ?_
      obtain ⟨h30, x29, hx29, hM⟩ := ldA_some sm_ne hM
      refine gzld hx hb hK1 hP 3 2 rfl rfl h30 hx29 dX5_block_168 ?_
      refine lv_if_eq (tgt := 176) hx hb dX5_block_169 (by decide) (fun e31 => ?_) (fun e31 => ?_)
      · have hM := it_p e31 hM
        refine lv_iconst (v := 0) hx hb dX5_block_176 (by decide) ?_
        exact W.iret hx hb hr (fun t ht hW => ⟨⟨_, _, rfl, ⟨pr1 hM, rfl⟩, hPt ht hP⟩, hS.F ht⟩) hS.2.2 dX5_block_177
      · have hM := it_n e31 hM
        refine lv_iconst (v := 1) hx hb dX5_block_172 (by decide) ?_
        refine lv_goto (tgt := 177) hx hb dX5_block_173 (by decide) ?_
        exact W.iret hx hb hr (fun t ht hW => ⟨⟨_, _, rfl, ⟨pr1 hM, rfl⟩, hPt ht hP⟩, hS.F ht⟩) hS.2.2 dX5_block_177
    have hM := it_n e18_4 hM
    by_cases e18_5 : a2 = 5
    · have hM := it_p e18_5 hM
      refine lv_tableIn (off := 160) (tgt := 178) hx hb dX5_block_18 (by rw [e18_5]; decide) (by rw [e18_5]; decide) (by rw [e18_5]; rfl) (by decide) ?_
      refine lv_aload_n hx hb dX5_block_178 rfl (lv_at hl 0 rfl) ?_
      refine gget (v := .ref (ad 4)) hx hb hts i5 hown hK1 hP 0 rfl rfl 4 (by decide) f24 rfl rfl dX5_block_179 ?_
      refine lv_iload_n hx hb dX5_block_182 rfl (lv_at hl 1 rfl) ?_
      obtain ⟨h33, x32, hx32, hM⟩ := ldA_some sm_ne hM
      refine gzld hx hb hK1 hP 4 3 rfl rfl h33 hx32 dX5_block_183 ?_
      refine lv_if_eq (tgt := 191) hx hb dX5_block_184 (by decide) (fun e34 => ?_) (fun e34 => ?_)
      · have hM := it_p e34 hM
        refine lv_iconst (v := 0) hx hb dX5_block_191 (by decide) ?_
        exact W.iret hx hb hr (fun t ht hW => ⟨⟨_, _, rfl, ⟨pr1 hM, rfl⟩, hPt ht hP⟩, hS.F ht⟩) hS.2.2 dX5_block_192
      · have hM := it_n e34 hM
        refine lv_iconst (v := 1) hx hb dX5_block_187 (by decide) ?_
        refine lv_goto (tgt := 192) hx hb dX5_block_188 (by decide) ?_
        exact W.iret hx hb hr (fun t ht hW => ⟨⟨_, _, rfl, ⟨pr1 hM, rfl⟩, hPt ht hP⟩, hS.F ht⟩) hS.2.2 dX5_block_192
    have hM := it_n e18_5 hM
    refine lv_tableOut (tgt := 193) hx hb dX5_block_18 (tsw_out 5 (by decide) (fun k hk => ?_)) (by decide) ?_
    · rcases (show k = 0 ∨ k = 1 ∨ k = 2 ∨ k = 3 ∨ k = 4 ∨ k = 5 by omega) with rfl | rfl | rfl | rfl | rfl | rfl <;> assumption
    refine lv_bipush (v := (-102)) hx hb dX5_block_193 (by decide) ?_
    exact W.iret hx hb hr (fun t ht hW => ⟨⟨_, _, rfl, ⟨pr1 hM, rfl⟩, hPt ht hP⟩, hS.F ht⟩) hS.2.2 dX5_block_195
  · have hM := it_p e35 hM
    refine lv_bipush (v := (-101)) hx hb dX5_block_14 (by decide) ?_
    exact W.iret hx hb hr (fun t ht hW => ⟨⟨_, _, rfl, ⟨pr1 hM, rfl⟩, hPt ht hP⟩, hS.F ht⟩) hS.2.2 dX5_block_16
set_option maxHeartbeats 4000000 in
set_option maxRecDepth 100000 in
theorem kX5_room (l : Launch) (dC : Nat → ClassId) (dI : Nat → Nat → Nat) (ad : Nat → Nat) (cA : Nat → ClassId) (hap : apart 15 ad) (sz : Nat) (c : HS) (a1 : Int32) (r0 : Int32) (hM : pX5_room c a1 = some r0) : Met l yX5_room wsX5_room ({ frames := 1, cells := 0, slots := 0, locals := 23 }) (gP (dC, dI) (wM ad cA) (kM (dC, dI) cA) c sz [.ref (ad 0), .int a1]) (gQi (dC, dI) (wM ad cA) (fA 15 ad sz) r0 c) 0 0 (fA 15 ad sz) := by
  refine Met.ofW (cc := cX5_room) (maxL := 4) (ret := (some .int)) (by decide) rfl ?_
  intro p e s m args below meth cd s₁ B hml hv
  obtain ⟨rfl, rfl, hP, hK⟩ := hv
  have hx := B.exec
  have hb := B.bytes
  have hr := B.returns
  have hts := atoms_spec (ws := wsX5_room) B.pre
  have hown : s.vm.findClass RX5 = some m.cls := findClass_of_methodNamed B.named
  have hlocks := B.notSynchronized
  have hK1 : va_K (dC, dI) vwCl (tM cA) s := hK
  have hD : ∀ c, va_D (fA 15 ad s.heap.size) (wM ad cA c) := fun c => dM_ok hap cA c _
  have hS : va_S (fA 15 ad s.heap.size) s.heap s.heap [] := va_S.rf
  have i5 : ∀ w ∈ u_ws RX5 TX5 27, w ∈ wsX5_room := by decide +kernel
  have f7 := hts (.fieldLink RX5 7 "StickyHeapModel" "blocks" "I") (by decide +kernel)
  have f13 := hts (.fieldLink RX5 13 "StickyHeapModel" "sorts" "[I") (by decide +kernel)
  have f17 := hts (.fieldLink RX5 17 "StickyHeapModel" "classes" "[I") (by decide +kernel)
  have L16 : ∀ (n : Nat) (v1 : Int32) (v2 : Int32) (v3 : Int32) (H : Heap) (locs : List Loc) (ls : Array Slot), pX5_room_16 c n v1 v2 v3 = some r0 → va_P (dC, dI) vwCl (wM ad cA c) H → va_S (fA 15 ad s.heap.size) s.heap H locs → lv_has ls 4 [(0, .ref (ad 0)), (1, .int v1), (2, .int v2), (3, .int v3)] → W p l e (headSpec wsX5_room ({ frames := 1, cells := 0, slots := 0, locals := 23 })).room s m ([.ref (ad 0), .int a1]).toArray below meth cd H locs 0 0 (MQ below (gQi (dC, dI) (wM ad cA) (fA 15 ad s.heap.size) r0 c) ([.ref (ad 0), .int a1]).toArray s 0 0 (fA 15 ad s.heap.size)) (F0 m 16 ls []) := by
    intro n
    induction n with
    | zero =>
      intro v1 v2 v3 H locs ls hM
      exact absurd (Eq.symm (hM : none = some r0)) sm_ne
    | succ n16 ih16 =>
      intro v1 v2 v3 H locs ls hM hP hS hl
      unfold pX5_room_16 at hM
      refine lv_iload_n hx hb dX5_room_16 rfl (lv_at hl 3 rfl) ?_
      refine lv_aload_n hx hb dX5_room_17 rfl (lv_at hl 0 rfl) ?_
      refine gget (v := .int (c.1 0 0)) hx hb hts i5 hown hK1 hP 0 rfl rfl 0 (by decide) f7 rfl rfl dX5_room_18 ?_
      refine lv_icmp_ge (tgt := 97) hx hb dX5_room_21 (by decide) (fun e15 => ?_) (fun e15 => ?_)
      · have hM := it_p e15 hM
        refine lv_iload_n hx hb dX5_room_97 rfl (lv_at hl 2 rfl) ?_
        exact W.iret hx hb hr (fun t ht hW => ⟨⟨_, _, rfl, ⟨pr1 hM, rfl⟩, hPt ht hP⟩, hS.F ht⟩) hS.2.2 dX5_room_98
      · have hM := it_n e15 hM
        refine lv_aload_n hx hb dX5_room_24 rfl (lv_at hl 0 rfl) ?_
        refine gget (v := .ref (ad 1)) hx hb hts i5 hown hK1 hP 0 rfl rfl 1 (by decide) f13 rfl rfl dX5_room_25 ?_
        refine lv_iload_n hx hb dX5_room_28 rfl (lv_at hl 3 rfl) ?_
        obtain ⟨h2, x1, hx1, hM⟩ := ldA_some sm_ne hM
        refine gald hx hb hK1 hP 1 0 rfl rfl h2 hx1 dX5_room_29 ?_
        refine lv_if_ne (tgt := 55) hx hb dX5_room_30 (by decide) (fun e14 => ?_) (fun e14 => ?_)
        · have hM := it_n e14 hM
          refine lv_aload_n hx hb dX5_room_55 rfl (lv_at hl 0 rfl) ?_
          refine gget (v := .ref (ad 1)) hx hb hts i5 hown hK1 hP 0 rfl rfl 1 (by decide) f13 rfl rfl dX5_room_56 ?_
          refine lv_iload_n hx hb dX5_room_59 rfl (lv_at hl 3 rfl) ?_
          obtain ⟨h4, x3, hx3, hM⟩ := ldA_some sm_ne hM
          refine gald hx hb hK1 hP 1 0 rfl rfl h4 hx3 dX5_room_60 ?_
          refine lv_iconst (v := 1) hx hb dX5_room_61 (by decide) ?_
          refine lv_icmp_ne (tgt := 91) hx hb dX5_room_62 (by decide) (fun e11 => ?_) (fun e11 => ?_)
          · have hM := it_n e11 hM
            refine lv_iinc (v := v3 + 1) (lv' := [(3, .int (v3 + 1)), (0, .ref (ad 0)), (1, .int v1), (2, .int v2)]) hx hb dX5_room_91 hl (k := 3) rfl rfl (by decide) rfl (fun ls hl => ?_)
            refine lv_goto (tgt := 16) hx hb dX5_room_94 (by decide) ?_
            exact ih16 _ _ _ _ _ _ hM hP hS (lv_sub hl [1, 2, 3, 0] rfl)
          · have hM := it_p e11 hM
            refine lv_aload_n hx hb dX5_room_65 rfl (lv_at hl 0 rfl) ?_
            refine gget (v := .ref (ad 2)) hx hb hts i5 hown hK1 hP 0 rfl rfl 2 (by decide) f17 rfl rfl dX5_room_66 ?_
            refine lv_iload_n hx hb dX5_room_69 rfl (lv_at hl 3 rfl) ?_
            obtain ⟨h6, x5, hx5, hM⟩ := ldA_some sm_ne hM
            refine gald hx hb hK1 hP 2 1 rfl rfl h6 hx5 dX5_room_70 ?_
            refine lv_iload_n hx hb dX5_room_71 rfl (lv_at hl 1 rfl) ?_
            refine lv_icmp_ne (tgt := 91) hx hb dX5_room_72 (by decide) (fun e10 => ?_) (fun e10 => ?_)
            · have hM := it_n e10 hM
              refine lv_iinc (v := v3 + 1) (lv' := [(3, .int (v3 + 1)), (0, .ref (ad 0)), (1, .int v1), (2, .int v2)]) hx hb dX5_room_91 hl (k := 3) rfl rfl (by decide) rfl (fun ls hl => ?_)
              refine lv_goto (tgt := 16) hx hb dX5_room_94 (by decide) ?_
              exact ih16 _ _ _ _ _ _ hM hP hS (lv_sub hl [1, 2, 3, 0] rfl)
            · have hM := it_p e10 hM
              refine lv_iload_n hx hb dX5_room_75 rfl (lv_at hl 2 rfl) ?_
              refine lv_bipush (v := 64) hx hb dX5_room_76 (by decide) ?_
              refine lv_iload_n hx hb dX5_room_78 rfl (lv_at hl 1 rfl) ?_
              refine gCi (gS (As := [.int v1]) (rest := [.int 64, .int v2]) ⟨hx, hb, hml, hown, hts⟩ (kX5_cell l dC dI ad cA hap _ c v1 _ rfl) (va_cwS 1 hts gX5_room_X5_cell rfl rfl rfl (by decide +kernel) ⟨Nat.le_of_ble_eq_true rfl, Nat.le_of_ble_eq_true rfl⟩) (kM_st _ _) hK hP rfl hl.1 rfl (Nat.le_of_ble_eq_true rfl) dX5_room_79 ⟨Nat.zero_le _, Nat.zero_le _⟩) hS (fun H locs hP hS => ?_)
              obtain ⟨h7, hM⟩ := gdN_some sm_ne hM
              refine lv_idiv hx hb dX5_room_82 h7 ?_
              refine lv_aload_n hx hb dX5_room_83 rfl (lv_at hl 0 rfl) ?_
              refine lv_iload_n hx hb dX5_room_84 rfl (lv_at hl 3 rfl) ?_
              obtain ⟨r9, h8, hM⟩ := bd1_some sm_ne hM
              refine gCi (gV (As := [.int v3]) (rest := [.int (64 / (pX5_cell v1)), .int v2]) ⟨hx, hb, hml, hown, hts⟩ (kX5_used l dC dI ad cA hap _ c v3 _ h8) (cwV 1 hts gX5_room_X5_used rfl rfl rfl (by decide +kernel) ⟨Nat.le_of_ble_eq_true rfl, Nat.le_of_ble_eq_true rfl⟩) (kM_st _ _) hK hP (va_recv hK1 hP (ci := 5) (q0 := 0) rfl rfl) rfl hl.1 rfl (Nat.le_of_ble_eq_true rfl) dX5_room_85 ⟨Nat.zero_le _, Nat.zero_le _⟩) hS (fun H locs hP hS => ?_)
              refine lv_isub hx hb dX5_room_88 ?_
              refine lv_iadd hx hb dX5_room_89 ?_
              refine lv_istore_n (lv' := [(2, .int (v2 + ((64 / (pX5_cell v1)) - r9))), (0, .ref (ad 0)), (1, .int v1), (3, .int v3)]) hx hb dX5_room_90 rfl hl (by decide) rfl (fun ls hl => ?_)
              refine lv_iinc (v := v3 + 1) (lv' := [(3, .int (v3 + 1)), (2, .int (v2 + ((64 / (pX5_cell v1)) - r9))), (0, .ref (ad 0)), (1, .int v1)]) hx hb dX5_room_91 hl (k := 3) rfl rfl (by decide) rfl (fun ls hl => ?_)
              refine lv_goto (tgt := 16) hx hb dX5_room_94 (by decide) ?_
              exact ih16 _ _ _ _ _ _ hM hP hS (lv_sub hl [2, 3, 1, 0] rfl)
        · have hM := it_p e14 hM
          refine lv_iload_n hx hb dX5_room_33 rfl (lv_at hl 2 rfl) ?_
          refine lv_iload_n hx hb dX5_room_34 rfl (lv_at hl 1 rfl) ?_
          refine lv_iconst (v := 5) hx hb dX5_room_35 (by decide) ?_
          refine lv_icmp_ne (tgt := 43) hx hb dX5_room_36 (by decide) (fun e13 => ?_) (fun e13 => ?_)
          · have hM := it_n e13 hM
            refine lv_bipush (v := 64) hx hb dX5_room_43 (by decide) ?_
            refine lv_iload_n hx hb dX5_room_45 rfl (lv_at hl 1 rfl) ?_
            refine gCi (gS (As := [.int v1]) (rest := [.int 64, .int v2]) ⟨hx, hb, hml, hown, hts⟩ (kX5_cell l dC dI ad cA hap _ c v1 _ rfl) (va_cwS 1 hts gX5_room_X5_cell rfl rfl rfl (by decide +kernel) ⟨Nat.le_of_ble_eq_true rfl, Nat.le_of_ble_eq_true rfl⟩) (kM_st _ _) hK hP rfl hl.1 rfl (Nat.le_of_ble_eq_true rfl) dX5_room_46 ⟨Nat.zero_le _, Nat.zero_le _⟩) hS (fun H locs hP hS => ?_)
            obtain ⟨h12, hM⟩ := gdN_some sm_ne hM
            refine lv_idiv hx hb dX5_room_49 h12 ?_
            refine lv_iadd hx hb dX5_room_50 ?_
            refine lv_istore_n (lv' := [(2, .int (v2 + (64 / (pX5_cell v1)))), (0, .ref (ad 0)), (1, .int v1), (3, .int v3)]) hx hb dX5_room_51 rfl hl (by decide) rfl (fun ls hl => ?_)
            refine lv_goto (tgt := 91) hx hb dX5_room_52 (by decide) ?_
            refine lv_iinc (v := v3 + 1) (lv' := [(3, .int (v3 + 1)), (2, .int (v2 + (64 / (pX5_cell v1)))), (0, .ref (ad 0)), (1, .int v1)]) hx hb dX5_room_91 hl (k := 3) rfl rfl (by decide) rfl (fun ls hl => ?_)
            refine lv_goto (tgt := 16) hx hb dX5_room_94 (by decide) ?_
            exact ih16 _ _ _ _ _ _ hM hP hS (lv_sub hl [2, 3, 1, 0] rfl)
          · have hM := it_p e13 hM
            refine lv_iconst (v := 1) hx hb dX5_room_39 (by decide) ?_
            refine lv_goto (tgt := 50) hx hb dX5_room_40 (by decide) ?_
            refine lv_iadd hx hb dX5_room_50 ?_
            refine lv_istore_n (lv' := [(2, .int (v2 + 1)), (0, .ref (ad 0)), (1, .int v1), (3, .int v3)]) hx hb dX5_room_51 rfl hl (by decide) rfl (fun ls hl => ?_)
            refine lv_goto (tgt := 91) hx hb dX5_room_52 (by decide) ?_
            refine lv_iinc (v := v3 + 1) (lv' := [(3, .int (v3 + 1)), (2, .int (v2 + 1)), (0, .ref (ad 0)), (1, .int v1)]) hx hb dX5_room_91 hl (k := 3) rfl rfl (by decide) rfl (fun ls hl => ?_)
            refine lv_goto (tgt := 16) hx hb dX5_room_94 (by decide) ?_
            exact ih16 _ _ _ _ _ _ hM hP hS (lv_sub hl [2, 3, 1, 0] rfl)
  have hl := lv_entry [.ref (ad 0), .int a1] (n := 4) (Nat.le_of_ble_eq_true rfl)
  rw [lg_entry_eq]
  generalize (lg_sl [.ref (ad 0), .int a1] ++ List.replicate (4 - (lg_sl [.ref (ad 0), .int a1]).length) Slot.unset).toArray = ls at hl ⊢
  have hl : lv_has ls 4 [(0, .ref (ad 0)), (1, .int a1)] := hl
  have hP : va_P (dC, dI) vwCl (wM ad cA c) s.heap := hP
  unfold pX5_room at hM
  refine lv_iload_n hx hb dX5_room_0 rfl (lv_at hl 1 rfl) ?_
  refine lv_iconst (v := 0) hx hb dX5_room_1 (by decide) ?_
  refine lv_iconst (v := 5) hx hb dX5_room_2 (by decide) ?_
  refine gCi (gS (As := [.int a1, .int 0, .int 5]) (rest := []) ⟨hx, hb, hml, hown, hts⟩ (kX5_in l dC dI ad cA hap _ c a1 0 5 _ rfl) (va_cwS 3 hts gX5_room_X5_in rfl rfl rfl (by decide +kernel) ⟨Nat.le_of_ble_eq_true rfl, Nat.le_of_ble_eq_true rfl⟩) (kM_st _ _) hK hP rfl hl.1 rfl (Nat.le_of_ble_eq_true rfl) dX5_room_3 ⟨Nat.zero_le _, Nat.zero_le _⟩) hS (fun H locs hP hS => ?_)
  refine lv_if_ne (tgt := 12) hx hb dX5_room_6 (by decide) (fun e16 => ?_) (fun e16 => ?_)
  · have hM := it_n e16 hM
    refine lv_iconst (v := 0) hx hb dX5_room_12 (by decide) ?_
    refine lv_istore_n (lv' := [(2, .int 0), (0, .ref (ad 0)), (1, .int a1)]) hx hb dX5_room_13 rfl hl (by decide) rfl (fun ls hl => ?_)
    refine lv_iconst (v := 0) hx hb dX5_room_14 (by decide) ?_
    refine lv_istore_n (lv' := [(3, .int 0), (2, .int 0), (0, .ref (ad 0)), (1, .int a1)]) hx hb dX5_room_15 rfl hl (by decide) rfl (fun ls hl => ?_)
    exact L16 _ _ _ _ _ _ _ hM hP hS (lv_sub hl [2, 3, 1, 0] rfl)
  · have hM := it_p e16 hM
    refine lv_bipush (v := (-102)) hx hb dX5_room_9 (by decide) ?_
    exact W.iret hx hb hr (fun t ht hW => ⟨⟨_, _, rfl, ⟨pr1 hM, rfl⟩, hPt ht hP⟩, hS.F ht⟩) hS.2.2 dX5_room_11
set_option maxHeartbeats 4000000 in
set_option maxRecDepth 100000 in
theorem kX5_count (l : Launch) (dC : Nat → ClassId) (dI : Nat → Nat → Nat) (ad : Nat → Nat) (cA : Nat → ClassId) (hap : apart 15 ad) (sz : Nat) (c : HS) (a1 : Int32) (r0 : Int32) (hM : pX5_count c a1 = some r0) : Met l yX5_count wsX5_count ({ frames := 2, cells := 0, slots := 0, locals := 46 }) (gP (dC, dI) (wM ad cA) (kM (dC, dI) cA) c sz [.ref (ad 0), .int a1]) (gQi (dC, dI) (wM ad cA) (fA 15 ad sz) r0 c) 0 0 (fA 15 ad sz) := by
  refine Met.ofW (cc := cX5_count) (maxL := 4) (ret := (some .int)) (by decide) rfl ?_
  intro p e s m args below meth cd s₁ B hml hv
  obtain ⟨rfl, rfl, hP, hK⟩ := hv
  have hx := B.exec
  have hb := B.bytes
  have hr := B.returns
  have hts := atoms_spec (ws := wsX5_count) B.pre
  have hown : s.vm.findClass RX5 = some m.cls := findClass_of_methodNamed B.named
  have hlocks := B.notSynchronized
  have hK1 : va_K (dC, dI) vwCl (tM cA) s := hK
  have hD : ∀ c, va_D (fA 15 ad s.heap.size) (wM ad cA c) := fun c => dM_ok hap cA c _
  have hS : va_S (fA 15 ad s.heap.size) s.heap s.heap [] := va_S.rf
  have i5 : ∀ w ∈ u_ws RX5 TX5 27, w ∈ wsX5_count := by decide +kernel
  have f7 := hts (.fieldLink RX5 7 "StickyHeapModel" "blocks" "I") (by decide +kernel)
  have f13 := hts (.fieldLink RX5 13 "StickyHeapModel" "sorts" "[I") (by decide +kernel)
  have f24 := hts (.fieldLink RX5 24 "StickyHeapModel" "barred" "[Z") (by decide +kernel)
  have f30 := hts (.fieldLink RX5 30 "StickyHeapModel" "begins" "[Z") (by decide +kernel)
  have f75 := hts (.fieldLink RX5 75 "StickyHeapModel" "isOver" "Z") (by decide +kernel)
  have f108 := hts (.fieldLink RX5 108 "StickyHeapModel" "gone" "I") (by decide +kernel)
  have f115 := hts (.fieldLink RX5 115 "StickyHeapModel" "minors" "I") (by decide +kernel)
  have f118 := hts (.fieldLink RX5 118 "StickyHeapModel" "fulls" "I") (by decide +kernel)
  have f121 := hts (.fieldLink RX5 121 "StickyHeapModel" "made" "I") (by decide +kernel)
  have f141 := hts (.fieldLink RX5 141 "StickyHeapModel" "lookedAt" "I") (by decide +kernel)
  have L172 : ∀ (n : Nat) (v2 : Int32) (v3 : Int32) (H : Heap) (locs : List Loc) (ls : Array Slot), pX5_count_172 c n v2 v3 = some r0 → va_P (dC, dI) vwCl (wM ad cA c) H → va_S (fA 15 ad s.heap.size) s.heap H locs → lv_has ls 4 [(0, .ref (ad 0)), (2, .int v2), (3, .int v3)] → W p l e (headSpec wsX5_count ({ frames := 2, cells := 0, slots := 0, locals := 46 })).room s m ([.ref (ad 0), .int a1]).toArray below meth cd H locs 0 0 (MQ below (gQi (dC, dI) (wM ad cA) (fA 15 ad s.heap.size) r0 c) ([.ref (ad 0), .int a1]).toArray s 0 0 (fA 15 ad s.heap.size)) (F0 m 172 ls []) := by
    intro n
    induction n with
    | zero =>
      intro v2 v3 H locs ls hM
      exact absurd (Eq.symm (hM : none = some r0)) sm_ne
    | succ n172 ih172 =>
      intro v2 v3 H locs ls hM hP hS hl
      unfold pX5_count_172 at hM
      refine lv_iload_n hx hb dX5_count_172 rfl (lv_at hl 2 rfl) ?_
      refine lv_bipush (v := 64) hx hb dX5_count_173 (by decide) ?_
      refine lv_aload_n hx hb dX5_count_175 rfl (lv_at hl 0 rfl) ?_
      refine gget (v := .int (c.1 0 0)) hx hb hts i5 hown hK1 hP 0 rfl rfl 0 (by decide) f7 rfl rfl dX5_count_176 ?_
      refine lv_imul hx hb dX5_count_179 ?_
      refine lv_icmp_ge (tgt := 214) hx hb dX5_count_180 (by decide) (fun e7 => ?_) (fun e7 => ?_)
      · have hM := it_p e7 hM
        refine lv_iload_n hx hb dX5_count_214 rfl (lv_at hl 1 rfl) ?_
        exact W.iret hx hb hr (fun t ht hW => ⟨⟨_, _, rfl, ⟨pr1 hM, rfl⟩, hPt ht hP⟩, hS.F ht⟩) hS.2.2 dX5_count_215
      · have hM := it_n e7 hM
        refine lv_iload_n hx hb dX5_count_183 rfl (lv_at hl 1 rfl) ?_
        refine lv_aload_n hx hb dX5_count_184 rfl (lv_at hl 0 rfl) ?_
        refine gget (v := .ref (ad 6)) hx hb hts i5 hown hK1 hP 0 rfl rfl 6 (by decide) f30 rfl rfl dX5_count_185 ?_
        refine lv_iload_n hx hb dX5_count_188 rfl (lv_at hl 2 rfl) ?_
        obtain ⟨h2, x1, hx1, hM⟩ := ldA_some sm_ne hM
        refine gzld hx hb hK1 hP 6 5 rfl rfl h2 hx1 dX5_count_189 ?_
        refine lv_if_eq (tgt := 205) hx hb dX5_count_190 (by decide) (fun e6 => ?_) (fun e6 => ?_)
        · have hM := it_p e6 hM
          refine lv_iconst (v := 0) hx hb dX5_count_205 (by decide) ?_
          refine lv_iadd hx hb dX5_count_206 ?_
          refine lv_istore_n (lv' := [(2, .int (v2 + 0)), (0, .ref (ad 0)), (3, .int v3)]) hx hb dX5_count_207 rfl hl (by decide) rfl (fun ls hl => ?_)
          refine lv_iinc (v := v3 + 1) (lv' := [(3, .int (v3 + 1)), (2, .int (v2 + 0)), (0, .ref (ad 0))]) hx hb dX5_count_208 hl (k := 2) rfl rfl (by decide) rfl (fun ls hl => ?_)
          refine lv_goto (tgt := 172) hx hb dX5_count_211 (by decide) ?_
          exact ih172 _ _ _ _ _ hM hP hS (lv_sub hl [2, 1, 0] rfl)
        · have hM := it_n e6 hM
          refine lv_aload_n hx hb dX5_count_193 rfl (lv_at hl 0 rfl) ?_
          refine lv_iload_n hx hb dX5_count_194 rfl (lv_at hl 2 rfl) ?_
          obtain ⟨r4, h3, hM⟩ := bd1_some sm_ne hM
          refine gCi (gV (As := [.int v3]) (rest := [.int v2]) ⟨hx, hb, hml, hown, hts⟩ (kX5_isRemembered l dC dI ad cA hap _ c v3 _ h3) (cwV 1 hts gX5_count_X5_isRemembered rfl rfl rfl (by decide +kernel) ⟨Nat.le_of_ble_eq_true rfl, Nat.le_of_ble_eq_true rfl⟩) (kM_st _ _) hK hP (va_recv hK1 hP (ci := 5) (q0 := 0) rfl rfl) rfl hl.1 rfl (Nat.le_of_ble_eq_true rfl) dX5_count_195 ⟨Nat.zero_le _, Nat.zero_le _⟩) hS (fun H locs hP hS => ?_)
          refine lv_if_eq (tgt := 205) hx hb dX5_count_198 (by decide) (fun e5 => ?_) (fun e5 => ?_)
          · have hM := it_p e5 hM
            refine lv_iconst (v := 0) hx hb dX5_count_205 (by decide) ?_
            refine lv_iadd hx hb dX5_count_206 ?_
            refine lv_istore_n (lv' := [(2, .int (v2 + 0)), (0, .ref (ad 0)), (3, .int v3)]) hx hb dX5_count_207 rfl hl (by decide) rfl (fun ls hl => ?_)
            refine lv_iinc (v := v3 + 1) (lv' := [(3, .int (v3 + 1)), (2, .int (v2 + 0)), (0, .ref (ad 0))]) hx hb dX5_count_208 hl (k := 2) rfl rfl (by decide) rfl (fun ls hl => ?_)
            refine lv_goto (tgt := 172) hx hb dX5_count_211 (by decide) ?_
            exact ih172 _ _ _ _ _ hM hP hS (lv_sub hl [2, 1, 0] rfl)
          · have hM := it_n e5 hM
            refine lv_iconst (v := 1) hx hb dX5_count_201 (by decide) ?_
            refine lv_goto (tgt := 206) hx hb dX5_count_202 (by decide) ?_
            refine lv_iadd hx hb dX5_count_206 ?_
            refine lv_istore_n (lv' := [(2, .int (v2 + 1)), (0, .ref (ad 0)), (3, .int v3)]) hx hb dX5_count_207 rfl hl (by decide) rfl (fun ls hl => ?_)
            refine lv_iinc (v := v3 + 1) (lv' := [(3, .int (v3 + 1)), (2, .int (v2 + 1)), (0, .ref (ad 0))]) hx hb dX5_count_208 hl (k := 2) rfl rfl (by decide) rfl (fun ls hl => ?_)
            refine lv_goto (tgt := 172) hx hb dX5_count_211 (by decide) ?_
            exact ih172 _ _ _ _ _ hM hP hS (lv_sub hl [2, 1, 0] rfl)
  have L137 : ∀ (n : Nat) (v2 : Int32) (v3 : Int32) (H : Heap) (locs : List Loc) (ls : Array Slot), pX5_count_137 c n v2 v3 = some r0 → va_P (dC, dI) vwCl (wM ad cA c) H → va_S (fA 15 ad s.heap.size) s.heap H locs → lv_has ls 4 [(0, .ref (ad 0)), (2, .int v2), (3, .int v3)] → W p l e (headSpec wsX5_count ({ frames := 2, cells := 0, slots := 0, locals := 46 })).room s m ([.ref (ad 0), .int a1]).toArray below meth cd H locs 0 0 (MQ below (gQi (dC, dI) (wM ad cA) (fA 15 ad s.heap.size) r0 c) ([.ref (ad 0), .int a1]).toArray s 0 0 (fA 15 ad s.heap.size)) (F0 m 137 ls []) := by
    intro n
    induction n with
    | zero =>
      intro v2 v3 H locs ls hM
      exact absurd (Eq.symm (hM : none = some r0)) sm_ne
    | succ n137 ih137 =>
      intro v2 v3 H locs ls hM hP hS hl
      unfold pX5_count_137 at hM
      refine lv_iload_n hx hb dX5_count_137 rfl (lv_at hl 2 rfl) ?_
      refine lv_aload_n hx hb dX5_count_138 rfl (lv_at hl 0 rfl) ?_
      refine gget (v := .int (c.1 0 0)) hx hb hts i5 hown hK1 hP 0 rfl rfl 0 (by decide) f7 rfl rfl dX5_count_139 ?_
      refine lv_icmp_ge (tgt := 168) hx hb dX5_count_142 (by decide) (fun e11 => ?_) (fun e11 => ?_)
      · have hM := it_p e11 hM
        refine lv_iload_n hx hb dX5_count_168 rfl (lv_at hl 1 rfl) ?_
        exact W.iret hx hb hr (fun t ht hW => ⟨⟨_, _, rfl, ⟨pr1 hM, rfl⟩, hPt ht hP⟩, hS.F ht⟩) hS.2.2 dX5_count_169
      · have hM := it_n e11 hM
        refine lv_iload_n hx hb dX5_count_145 rfl (lv_at hl 1 rfl) ?_
        refine lv_aload_n hx hb dX5_count_146 rfl (lv_at hl 0 rfl) ?_
        refine gget (v := .ref (ad 4)) hx hb hts i5 hown hK1 hP 0 rfl rfl 4 (by decide) f24 rfl rfl dX5_count_147 ?_
        refine lv_iload_n hx hb dX5_count_150 rfl (lv_at hl 2 rfl) ?_
        obtain ⟨h9, x8, hx8, hM⟩ := ldA_some sm_ne hM
        refine gzld hx hb hK1 hP 4 3 rfl rfl h9 hx8 dX5_count_151 ?_
        refine lv_if_eq (tgt := 159) hx hb dX5_count_152 (by decide) (fun e10 => ?_) (fun e10 => ?_)
        · have hM := it_p e10 hM
          refine lv_iconst (v := 0) hx hb dX5_count_159 (by decide) ?_
          refine lv_iadd hx hb dX5_count_160 ?_
          refine lv_istore_n (lv' := [(2, .int (v2 + 0)), (0, .ref (ad 0)), (3, .int v3)]) hx hb dX5_count_161 rfl hl (by decide) rfl (fun ls hl => ?_)
          refine lv_iinc (v := v3 + 1) (lv' := [(3, .int (v3 + 1)), (2, .int (v2 + 0)), (0, .ref (ad 0))]) hx hb dX5_count_162 hl (k := 2) rfl rfl (by decide) rfl (fun ls hl => ?_)
          refine lv_goto (tgt := 137) hx hb dX5_count_165 (by decide) ?_
          exact ih137 _ _ _ _ _ hM hP hS (lv_sub hl [2, 1, 0] rfl)
        · have hM := it_n e10 hM
          refine lv_iconst (v := 1) hx hb dX5_count_155 (by decide) ?_
          refine lv_goto (tgt := 160) hx hb dX5_count_156 (by decide) ?_
          refine lv_iadd hx hb dX5_count_160 ?_
          refine lv_istore_n (lv' := [(2, .int (v2 + 1)), (0, .ref (ad 0)), (3, .int v3)]) hx hb dX5_count_161 rfl hl (by decide) rfl (fun ls hl => ?_)
          refine lv_iinc (v := v3 + 1) (lv' := [(3, .int (v3 + 1)), (2, .int (v2 + 1)), (0, .ref (ad 0))]) hx hb dX5_count_162 hl (k := 2) rfl rfl (by decide) rfl (fun ls hl => ?_)
          refine lv_goto (tgt := 137) hx hb dX5_count_165 (by decide) ?_
          exact ih137 _ _ _ _ _ hM hP hS (lv_sub hl [2, 1, 0] rfl)
  have L102 : ∀ (n : Nat) (v2 : Int32) (v3 : Int32) (H : Heap) (locs : List Loc) (ls : Array Slot), pX5_count_102 c n v2 v3 = some r0 → va_P (dC, dI) vwCl (wM ad cA c) H → va_S (fA 15 ad s.heap.size) s.heap H locs → lv_has ls 4 [(0, .ref (ad 0)), (2, .int v2), (3, .int v3)] → W p l e (headSpec wsX5_count ({ frames := 2, cells := 0, slots := 0, locals := 46 })).room s m ([.ref (ad 0), .int a1]).toArray below meth cd H locs 0 0 (MQ below (gQi (dC, dI) (wM ad cA) (fA 15 ad s.heap.size) r0 c) ([.ref (ad 0), .int a1]).toArray s 0 0 (fA 15 ad s.heap.size)) (F0 m 102 ls []) := by
    intro n
    induction n with
    | zero =>
      intro v2 v3 H locs ls hM
      exact absurd (Eq.symm (hM : none = some r0)) sm_ne
    | succ n102 ih102 =>
      intro v2 v3 H locs ls hM hP hS hl
      unfold pX5_count_102 at hM
      refine lv_iload_n hx hb dX5_count_102 rfl (lv_at hl 2 rfl) ?_
      refine lv_aload_n hx hb dX5_count_103 rfl (lv_at hl 0 rfl) ?_
      refine gget (v := .int (c.1 0 0)) hx hb hts i5 hown hK1 hP 0 rfl rfl 0 (by decide) f7 rfl rfl dX5_count_104 ?_
      refine lv_icmp_ge (tgt := 133) hx hb dX5_count_107 (by decide) (fun e15 => ?_) (fun e15 => ?_)
      · have hM := it_p e15 hM
        refine lv_iload_n hx hb dX5_count_133 rfl (lv_at hl 1 rfl) ?_
        exact W.iret hx hb hr (fun t ht hW => ⟨⟨_, _, rfl, ⟨pr1 hM, rfl⟩, hPt ht hP⟩, hS.F ht⟩) hS.2.2 dX5_count_134
      · have hM := it_n e15 hM
        refine lv_iload_n hx hb dX5_count_110 rfl (lv_at hl 1 rfl) ?_
        refine lv_aload_n hx hb dX5_count_111 rfl (lv_at hl 0 rfl) ?_
        refine gget (v := .ref (ad 1)) hx hb hts i5 hown hK1 hP 0 rfl rfl 1 (by decide) f13 rfl rfl dX5_count_112 ?_
        refine lv_iload_n hx hb dX5_count_115 rfl (lv_at hl 2 rfl) ?_
        obtain ⟨h13, x12, hx12, hM⟩ := ldA_some sm_ne hM
        refine gald hx hb hK1 hP 1 0 rfl rfl h13 hx12 dX5_count_116 ?_
        refine lv_if_ne (tgt := 124) hx hb dX5_count_117 (by decide) (fun e14 => ?_) (fun e14 => ?_)
        · have hM := it_n e14 hM
          refine lv_iconst (v := 0) hx hb dX5_count_124 (by decide) ?_
          refine lv_iadd hx hb dX5_count_125 ?_
          refine lv_istore_n (lv' := [(2, .int (v2 + 0)), (0, .ref (ad 0)), (3, .int v3)]) hx hb dX5_count_126 rfl hl (by decide) rfl (fun ls hl => ?_)
          refine lv_iinc (v := v3 + 1) (lv' := [(3, .int (v3 + 1)), (2, .int (v2 + 0)), (0, .ref (ad 0))]) hx hb dX5_count_127 hl (k := 2) rfl rfl (by decide) rfl (fun ls hl => ?_)
          refine lv_goto (tgt := 102) hx hb dX5_count_130 (by decide) ?_
          exact ih102 _ _ _ _ _ hM hP hS (lv_sub hl [2, 1, 0] rfl)
        · have hM := it_p e14 hM
          refine lv_iconst (v := 1) hx hb dX5_count_120 (by decide) ?_
          refine lv_goto (tgt := 125) hx hb dX5_count_121 (by decide) ?_
          refine lv_iadd hx hb dX5_count_125 ?_
          refine lv_istore_n (lv' := [(2, .int (v2 + 1)), (0, .ref (ad 0)), (3, .int v3)]) hx hb dX5_count_126 rfl hl (by decide) rfl (fun ls hl => ?_)
          refine lv_iinc (v := v3 + 1) (lv' := [(3, .int (v3 + 1)), (2, .int (v2 + 1)), (0, .ref (ad 0))]) hx hb dX5_count_127 hl (k := 2) rfl rfl (by decide) rfl (fun ls hl => ?_)
          refine lv_goto (tgt := 102) hx hb dX5_count_130 (by decide) ?_
          exact ih102 _ _ _ _ _ hM hP hS (lv_sub hl [2, 1, 0] rfl)
  have L76 : ∀ (n : Nat) (v2 : Int32) (v3 : Int32) (H : Heap) (locs : List Loc) (ls : Array Slot), pX5_count_76 c n v2 v3 = some r0 → va_P (dC, dI) vwCl (wM ad cA c) H → va_S (fA 15 ad s.heap.size) s.heap H locs → lv_has ls 4 [(0, .ref (ad 0)), (2, .int v2), (3, .int v3)] → W p l e (headSpec wsX5_count ({ frames := 2, cells := 0, slots := 0, locals := 46 })).room s m ([.ref (ad 0), .int a1]).toArray below meth cd H locs 0 0 (MQ below (gQi (dC, dI) (wM ad cA) (fA 15 ad s.heap.size) r0 c) ([.ref (ad 0), .int a1]).toArray s 0 0 (fA 15 ad s.heap.size)) (F0 m 76 ls []) := by
    intro n
    induction n with
    | zero =>
      intro v2 v3 H locs ls hM
      exact absurd (Eq.symm (hM : none = some r0)) sm_ne
    | succ n76 ih76 =>
      intro v2 v3 H locs ls hM hP hS hl
      unfold pX5_count_76 at hM
      refine lv_iload_n hx hb dX5_count_76 rfl (lv_at hl 2 rfl) ?_
      refine lv_aload_n hx hb dX5_count_77 rfl (lv_at hl 0 rfl) ?_
      refine gget (v := .int (c.1 0 0)) hx hb hts i5 hown hK1 hP 0 rfl rfl 0 (by decide) f7 rfl rfl dX5_count_78 ?_
      refine lv_icmp_ge (tgt := 98) hx hb dX5_count_81 (by decide) (fun e18 => ?_) (fun e18 => ?_)
      · have hM := it_p e18 hM
        refine lv_iload_n hx hb dX5_count_98 rfl (lv_at hl 1 rfl) ?_
        exact W.iret hx hb hr (fun t ht hW => ⟨⟨_, _, rfl, ⟨pr1 hM, rfl⟩, hPt ht hP⟩, hS.F ht⟩) hS.2.2 dX5_count_99
      · have hM := it_n e18 hM
        refine lv_iload_n hx hb dX5_count_84 rfl (lv_at hl 1 rfl) ?_
        refine lv_aload_n hx hb dX5_count_85 rfl (lv_at hl 0 rfl) ?_
        refine lv_iload_n hx hb dX5_count_86 rfl (lv_at hl 2 rfl) ?_
        obtain ⟨r17, h16, hM⟩ := bd1_some sm_ne hM
        refine gCi (gV (As := [.int v3]) (rest := [.int v2]) ⟨hx, hb, hml, hown, hts⟩ (kX5_olds l dC dI ad cA hap _ c v3 _ h16) (cwV 1 hts gX5_count_X5_olds rfl rfl rfl (by decide +kernel) ⟨Nat.le_of_ble_eq_true rfl, Nat.le_of_ble_eq_true rfl⟩) (kM_st _ _) hK hP (va_recv hK1 hP (ci := 5) (q0 := 0) rfl rfl) rfl hl.1 rfl (Nat.le_of_ble_eq_true rfl) dX5_count_87 ⟨Nat.zero_le _, Nat.zero_le _⟩) hS (fun H locs hP hS => ?_)
        refine lv_iadd hx hb dX5_count_90 ?_
        refine lv_istore_n (lv' := [(2, .int (v2 + r17)), (0, .ref (ad 0)), (3, .int v3)]) hx hb dX5_count_91 rfl hl (by decide) rfl (fun ls hl => ?_)
        refine lv_iinc (v := v3 + 1) (lv' := [(3, .int (v3 + 1)), (2, .int (v2 + r17)), (0, .ref (ad 0))]) hx hb dX5_count_92 hl (k := 2) rfl rfl (by decide) rfl (fun ls hl => ?_)
        refine lv_goto (tgt := 76) hx hb dX5_count_95 (by decide) ?_
        exact ih76 _ _ _ _ _ hM hP hS (lv_sub hl [2, 1, 0] rfl)
  have hl := lv_entry [.ref (ad 0), .int a1] (n := 4) (Nat.le_of_ble_eq_true rfl)
  rw [lg_entry_eq]
  generalize (lg_sl [.ref (ad 0), .int a1] ++ List.replicate (4 - (lg_sl [.ref (ad 0), .int a1]).length) Slot.unset).toArray = ls at hl ⊢
  have hl : lv_has ls 4 [(0, .ref (ad 0)), (1, .int a1)] := hl
  have hP : va_P (dC, dI) vwCl (wM ad cA c) s.heap := hP
  unfold pX5_count at hM
  refine lv_iconst (v := 0) hx hb dX5_count_0 (by decide) ?_
  refine lv_istore_n (lv' := [(2, .int 0), (0, .ref (ad 0)), (1, .int a1)]) hx hb dX5_count_1 rfl hl (by decide) rfl (fun ls hl => ?_)
  refine lv_iload_n hx hb dX5_count_2 rfl (lv_at hl 2 rfl) ?_
  by_cases e3_0 : a1 = 0
  · have hM := it_p e3_0 hM
    refine lv_tableIn (off := 61) (tgt := 64) hx hb dX5_count_3 (by rw [e3_0]; decide) (by rw [e3_0]; decide) (by rw [e3_0]; rfl) (by decide) ?_
    refine lv_aload_n hx hb dX5_count_64 rfl (lv_at hl 1 rfl) ?_
    refine gget (v := .int (c.1 0 0)) hx hb hts i5 hown hK1 hP 0 rfl rfl 0 (by decide) f7 rfl rfl dX5_count_65 ?_
    exact W.iret hx hb hr (fun t ht hW => ⟨⟨_, _, rfl, ⟨pr1 hM, rfl⟩, hPt ht hP⟩, hS.F ht⟩) hS.2.2 dX5_count_68
  have hM := it_n e3_0 hM
  by_cases e3_1 : a1 = 1
  · have hM := it_p e3_1 hM
    refine lv_tableIn (off := 66) (tgt := 69) hx hb dX5_count_3 (by rw [e3_1]; decide) (by rw [e3_1]; decide) (by rw [e3_1]; rfl) (by decide) ?_
    refine lv_aload_n hx hb dX5_count_69 rfl (lv_at hl 1 rfl) ?_
    obtain ⟨r20, h19, hM⟩ := bd1_some sm_ne hM
    refine gCi (gV (As := []) (rest := []) ⟨hx, hb, hml, hown, hts⟩ (kX5_things l dC dI ad cA hap _ c _ h19) (cwV 0 hts gX5_count_X5_things rfl rfl rfl (by decide +kernel) ⟨Nat.le_of_ble_eq_true rfl, Nat.le_of_ble_eq_true rfl⟩) (kM_st _ _) hK hP (va_recv hK1 hP (ci := 5) (q0 := 0) rfl rfl) rfl hl.1 rfl (Nat.le_of_ble_eq_true rfl) dX5_count_70 ⟨Nat.zero_le _, Nat.zero_le _⟩) hS (fun H locs hP hS => ?_)
    exact W.iret hx hb hr (fun t ht hW => ⟨⟨_, _, rfl, ⟨pr1 hM, rfl⟩, hPt ht hP⟩, hS.F ht⟩) hS.2.2 dX5_count_73
  have hM := it_n e3_1 hM
  by_cases e3_2 : a1 = 2
  · have hM := it_p e3_2 hM
    refine lv_tableIn (off := 71) (tgt := 74) hx hb dX5_count_3 (by rw [e3_2]; decide) (by rw [e3_2]; decide) (by rw [e3_2]; rfl) (by decide) ?_
    refine lv_iconst (v := 0) hx hb dX5_count_74 (by decide) ?_
    refine lv_istore_n (lv' := [(3, .int 0), (2, .int 0), (0, .ref (ad 0)), (1, .int a1)]) hx hb dX5_count_75 rfl hl (by decide) rfl (fun ls hl => ?_)
    exact L76 _ _ _ _ _ _ hM hP hS (lv_sub hl [2, 1, 0] rfl)
  have hM := it_n e3_2 hM
  by_cases e3_3 : a1 = 3
  · have hM := it_p e3_3 hM
    refine lv_tableIn (off := 97) (tgt := 100) hx hb dX5_count_3 (by rw [e3_3]; decide) (by rw [e3_3]; decide) (by rw [e3_3]; rfl) (by decide) ?_
    refine lv_iconst (v := 0) hx hb dX5_count_100 (by decide) ?_
    refine lv_istore_n (lv' := [(3, .int 0), (2, .int 0), (0, .ref (ad 0)), (1, .int a1)]) hx hb dX5_count_101 rfl hl (by decide) rfl (fun ls hl => ?_)
    exact L102 _ _ _ _ _ _ hM hP hS (lv_sub hl [2, 1, 0] rfl)
  have hM := it_n e3_3 hM
  by_cases e3_4 : a1 = 4
  · have hM := it_p e3_4 hM
    refine lv_tableIn (off := 132) (tgt := 135) hx hb dX5_count_3 (by rw [e3_4]; decide) (by rw [e3_4]; decide) (by rw [e3_4]; rfl) (by decide) ?_
    refine lv_iconst (v := 0) hx hb dX5_count_135 (by decide) ?_
    refine lv_istore_n (lv' := [(3, .int 0), (2, .int 0), (0, .ref (ad 0)), (1, .int a1)]) hx hb dX5_count_136 rfl hl (by decide) rfl (fun ls hl => ?_)
    exact L137 _ _ _ _ _ _ hM hP hS (lv_sub hl [2, 1, 0] rfl)
  have hM := it_n e3_4 hM
  by_cases e3_5 : a1 = 5
  · have hM := it_p e3_5 hM
    refine lv_tableIn (off := 167) (tgt := 170) hx hb dX5_count_3 (by rw [e3_5]; decide) (by rw [e3_5]; decide) (by rw [e3_5]; rfl) (by decide) ?_
    refine lv_iconst (v := 0) hx hb dX5_count_170 (by decide) ?_
    refine lv_istore_n (lv' := [(3, .int 0), (2, .int 0), (0, .ref (ad 0)), (1, .int a1)]) hx hb dX5_count_171 rfl hl (by decide) rfl (fun ls hl => ?_)
    exact L172 _ _ _ _ _ _ hM hP hS (lv_sub hl [2, 1, 0] rfl)
  have hM := it_n e3_5 hM
  by_cases e3_6 : a1 = 6
  · have hM := it_p e3_6 hM
    refine lv_tableIn (off := 213) (tgt := 216) hx hb dX5_count_3 (by rw [e3_6]; decide) (by rw [e3_6]; decide) (by rw [e3_6]; rfl) (by decide) ?_
    refine lv_aload_n hx hb dX5_count_216 rfl (lv_at hl 1 rfl) ?_
    refine gget (v := .int (c.1 0 3)) hx hb hts i5 hown hK1 hP 0 rfl rfl 16 (by decide) f75 rfl rfl dX5_count_217 ?_
    refine lv_if_eq (tgt := 227) hx hb dX5_count_220 (by decide) (fun e21 => ?_) (fun e21 => ?_)
    · have hM := it_p e21 hM
      refine lv_iconst (v := 0) hx hb dX5_count_227 (by decide) ?_
      exact W.iret hx hb hr (fun t ht hW => ⟨⟨_, _, rfl, ⟨pr1 hM, rfl⟩, hPt ht hP⟩, hS.F ht⟩) hS.2.2 dX5_count_228
    · have hM := it_n e21 hM
      refine lv_iconst (v := 1) hx hb dX5_count_223 (by decide) ?_
      refine lv_goto (tgt := 228) hx hb dX5_count_224 (by decide) ?_
      exact W.iret hx hb hr (fun t ht hW => ⟨⟨_, _, rfl, ⟨pr1 hM, rfl⟩, hPt ht hP⟩, hS.F ht⟩) hS.2.2 dX5_count_228
  have hM := it_n e3_6 hM
  by_cases e3_7 : a1 = 7
  · have hM := it_p e3_7 hM
    refine lv_tableIn (off := 226) (tgt := 229) hx hb dX5_count_3 (by rw [e3_7]; decide) (by rw [e3_7]; decide) (by rw [e3_7]; rfl) (by decide) ?_
    refine lv_aload_n hx hb dX5_count_229 rfl (lv_at hl 1 rfl) ?_
    refine gget (v := .int (c.1 0 7)) hx hb hts i5 hown hK1 hP 0 rfl rfl 20 (by decide) f121 rfl rfl dX5_count_230 ?_
    exact W.iret hx hb hr (fun t ht hW => ⟨⟨_, _, rfl, ⟨pr1 hM, rfl⟩, hPt ht hP⟩, hS.F ht⟩) hS.2.2 dX5_count_233
  have hM := it_n e3_7 hM
  by_cases e3_8 : a1 = 8
  · have hM := it_p e3_8 hM
    refine lv_tableIn (off := 231) (tgt := 234) hx hb dX5_count_3 (by rw [e3_8]; decide) (by rw [e3_8]; decide) (by rw [e3_8]; rfl) (by decide) ?_
    refine lv_aload_n hx hb dX5_count_234 rfl (lv_at hl 1 rfl) ?_
    refine gget (v := .int (c.1 0 8)) hx hb hts i5 hown hK1 hP 0 rfl rfl 21 (by decide) f108 rfl rfl dX5_count_235 ?_
    exact W.iret hx hb hr (fun t ht hW => ⟨⟨_, _, rfl, ⟨pr1 hM, rfl⟩, hPt ht hP⟩, hS.F ht⟩) hS.2.2 dX5_count_238
  have hM := it_n e3_8 hM
  by_cases e3_9 : a1 = 9
  · have hM := it_p e3_9 hM
    refine lv_tableIn (off := 236) (tgt := 239) hx hb dX5_count_3 (by rw [e3_9]; decide) (by rw [e3_9]; decide) (by rw [e3_9]; rfl) (by decide) ?_
    refine lv_aload_n hx hb dX5_count_239 rfl (lv_at hl 1 rfl) ?_
    refine gget (v := .int (c.1 0 9)) hx hb hts i5 hown hK1 hP 0 rfl rfl 22 (by decide) f115 rfl rfl dX5_count_240 ?_
    exact W.iret hx hb hr (fun t ht hW => ⟨⟨_, _, rfl, ⟨pr1 hM, rfl⟩, hPt ht hP⟩, hS.F ht⟩) hS.2.2 dX5_count_243
  have hM := it_n e3_9 hM
  by_cases e3_10 : a1 = 10
  · have hM := it_p e3_10 hM
    refine lv_tableIn (off := 241) (tgt := 244) hx hb dX5_count_3 (by rw [e3_10]; decide) (by rw [e3_10]; decide) (by rw [e3_10]; rfl) (by decide) ?_
    refine lv_aload_n hx hb dX5_count_244 rfl (lv_at hl 1 rfl) ?_
    refine gget (v := .int (c.1 0 10)) hx hb hts i5 hown hK1 hP 0 rfl rfl 23 (by decide) f118 rfl rfl dX5_count_245 ?_
    exact W.iret hx hb hr (fun t ht hW => ⟨⟨_, _, rfl, ⟨pr1 hM, rfl⟩, hPt ht hP⟩, hS.F ht⟩) hS.2.2 dX5_count_248
  have hM := it_n e3_10 hM
  by_cases e3_11 : a1 = 11
  · have hM := it_p e3_11 hM
    refine lv_tableIn (off := 246) (tgt := 249) hx hb dX5_count_3 (by rw [e3_11]; decide) (by rw [e3_11]; decide) (by rw [e3_11]; rfl) (by decide) ?_
    refine lv_aload_n hx hb dX5_count_249 rfl (lv_at hl 1 rfl) ?_
    refine gget (v := .int (c.1 0 11)) hx hb hts i5 hown hK1 hP 0 rfl rfl 24 (by decide) f141 rfl rfl dX5_count_250 ?_
    exact W.iret hx hb hr (fun t ht hW => ⟨⟨_, _, rfl, ⟨pr1 hM, rfl⟩, hPt ht hP⟩, hS.F ht⟩) hS.2.2 dX5_count_253
  have hM := it_n e3_11 hM
  refine lv_tableOut (tgt := 254) hx hb dX5_count_3 (tsw_out 11 (by decide) (fun k hk => ?_)) (by decide) ?_
  · rcases (show k = 0 ∨ k = 1 ∨ k = 2 ∨ k = 3 ∨ k = 4 ∨ k = 5 ∨ k = 6 ∨ k = 7 ∨ k = 8 ∨ k = 9 ∨ k = 10 ∨ k = 11 by omega) with rfl | rfl | rfl | rfl | rfl | rfl | rfl | rfl | rfl | rfl | rfl | rfl <;> assumption
  refine lv_bipush (v := (-102)) hx hb dX5_count_254 (by decide) ?_
  exact W.iret hx hb hr (fun t ht hW => ⟨⟨_, _, rfl, ⟨pr1 hM, rfl⟩, hPt ht hP⟩, hS.F ht⟩) hS.2.2 dX5_count_256
set_option maxHeartbeats 4000000 in
set_option maxRecDepth 100000 in
theorem kX5_mix (l : Launch) (dC : Nat → ClassId) (dI : Nat → Nat → Nat) (ad : Nat → Nat) (cA : Nat → ClassId) (hap : apart 15 ad) (sz : Nat) (c : HS) (a1 : Int64) (c9 : HS) (hM : pX5_mix c a1 = c9) : Met l yX5_mix wsX5_mix ({ frames := 0, cells := 0, slots := 0, locals := 0 }) (gP (dC, dI) (wM ad cA) (kM (dC, dI) cA) c sz [.ref (ad 0), .long a1]) (gQv (dC, dI) (wM ad cA) (fA 15 ad sz) c9) 0 0 (fA 15 ad sz) := by
  refine Met.ofW (cc := cX5_mix) (maxL := 3) (ret := none) (by decide) rfl ?_
  intro p e s m args below meth cd s₁ B hml hv
  obtain ⟨rfl, rfl, hP, hK⟩ := hv
  have hx := B.exec
  have hb := B.bytes
  have hr := B.returns
  have hts := atoms_spec (ws := wsX5_mix) B.pre
  have hown : s.vm.findClass RX5 = some m.cls := findClass_of_methodNamed B.named
  have hlocks := B.notSynchronized
  have hK1 : va_K (dC, dI) vwCl (tM cA) s := hK
  have hD : ∀ c, va_D (fA 15 ad s.heap.size) (wM ad cA c) := fun c => dM_ok hap cA c _
  have hS : va_S (fA 15 ad s.heap.size) s.heap s.heap [] := va_S.rf
  have i5 : ∀ w ∈ u_ws RX5 TX5 27, w ∈ wsX5_mix := by decide +kernel
  have f164 := hts (.fieldLink RX5 164 "StickyHeapModel" "h" "J") (by decide +kernel)
  have hl := lv_entry [.ref (ad 0), .long a1] (n := 3) (Nat.le_of_ble_eq_true rfl)
  rw [lg_entry_eq]
  generalize (lg_sl [.ref (ad 0), .long a1] ++ List.replicate (3 - (lg_sl [.ref (ad 0), .long a1]).length) Slot.unset).toArray = ls at hl ⊢
  have hl : lv_has ls 3 [(0, .ref (ad 0)), (1, .long a1)] := hl
  have hP : va_P (dC, dI) vwCl (wM ad cA c) s.heap := hP
  unfold pX5_mix at hM
  refine lv_aload_n hx hb dX5_mix_0 rfl (lv_at hl 0 rfl) ?_
  refine lv_ldc2 (v := 31) hx hb hown (hts (.constantLong RX5 162 (31)) (by decide +kernel)) dX5_mix_1 ?_
  refine lv_aload_n hx hb dX5_mix_4 rfl (lv_at hl 0 rfl) ?_
  refine gget (v := .long c.2) hx hb hts i5 hown hK1 hP 0 rfl rfl 26 (by decide) f164 rfl rfl dX5_mix_5 ?_
  refine lv_lmul hx hb dX5_mix_8 ?_
  refine lv_lload_n hx hb dX5_mix_9 rfl (lv_at hl 1 rfl) ?_
  refine lv_ladd hx hb dX5_mix_10 ?_
  obtain ⟨c1, hc1, hM⟩ := pfL_some hM
  refine gput (w := wM ad cA) (c := c) (c1 := c1) (v := .long ((31 * c.2) + a1)) hx hb hts i5 tyX5 tyX5_ok nmX5 hown hK1 hP (hD c) hS 0 rfl rfl 26 (by decide) f164 rfl rfl rfl rfl (Nat.le_of_ble_eq_true rfl) (by rw [hc1]; rfl) dX5_mix_11 (fun H locs hP hS => ?_)
  exact W.vret hx hb hr (fun t ht hW => ⟨⟨_, rfl, hM, hPt ht hP⟩, hS.F ht⟩) hS.2.2 dX5_mix_14
set_option maxHeartbeats 4000000 in
set_option maxRecDepth 100000 in
theorem kX5_digest (l : Launch) (dC : Nat → ClassId) (dI : Nat → Nat → Nat) (ad : Nat → Nat) (cA : Nat → ClassId) (hap : apart 15 ad) (sz : Nat) (c : HS) (r0 : Int64) (c9 : HS) (hM : pX5_digest c = some (r0, c9)) : Met l yX5_digest wsX5_digest ({ frames := 1, cells := 0, slots := 0, locals := 22 }) (gP (dC, dI) (wM ad cA) (kM (dC, dI) cA) c sz [.ref (ad 0)]) (gQl (dC, dI) (wM ad cA) (fA 15 ad sz) r0 c9) 0 0 (fA 15 ad sz) := by
  refine Met.ofW (cc := cX5_digest) (maxL := 3) (ret := (some .long)) (by decide) rfl ?_
  intro p e s m args below meth cd s₁ B hml hv
  obtain ⟨rfl, rfl, hP, hK⟩ := hv
  have hx := B.exec
  have hb := B.bytes
  have hr := B.returns
  have hts := atoms_spec (ws := wsX5_digest) B.pre
  have hown : s.vm.findClass RX5 = some m.cls := findClass_of_methodNamed B.named
  have hlocks := B.notSynchronized
  have hK1 : va_K (dC, dI) vwCl (tM cA) s := hK
  have hD : ∀ c, va_D (fA 15 ad s.heap.size) (wM ad cA c) := fun c => dM_ok hap cA c _
  have hS : va_S (fA 15 ad s.heap.size) s.heap s.heap [] := va_S.rf
  have i5 : ∀ w ∈ u_ws RX5 TX5 27, w ∈ wsX5_digest := by decide +kernel
  have f7 := hts (.fieldLink RX5 7 "StickyHeapModel" "blocks" "I") (by decide +kernel)
  have f13 := hts (.fieldLink RX5 13 "StickyHeapModel" "sorts" "[I") (by decide +kernel)
  have f20 := hts (.fieldLink RX5 20 "StickyHeapModel" "dirty" "[Z") (by decide +kernel)
  have f24 := hts (.fieldLink RX5 24 "StickyHeapModel" "barred" "[Z") (by decide +kernel)
  have f27 := hts (.fieldLink RX5 27 "StickyHeapModel" "words" "[I") (by decide +kernel)
  have f30 := hts (.fieldLink RX5 30 "StickyHeapModel" "begins" "[Z") (by decide +kernel)
  have f33 := hts (.fieldLink RX5 33 "StickyHeapModel" "isOld" "[Z") (by decide +kernel)
  have f39 := hts (.fieldLink RX5 39 "StickyHeapModel" "references" "[I") (by decide +kernel)
  have f42 := hts (.fieldLink RX5 42 "StickyHeapModel" "numbers" "[I") (by decide +kernel)
  have f45 := hts (.fieldLink RX5 45 "StickyHeapModel" "roots" "[I") (by decide +kernel)
  have f48 := hts (.fieldLink RX5 48 "StickyHeapModel" "stack" "[I") (by decide +kernel)
  have f51 := hts (.fieldLink RX5 51 "StickyHeapModel" "log" "[I") (by decide +kernel)
  have f69 := hts (.fieldLink RX5 69 "StickyHeapModel" "deep" "I") (by decide +kernel)
  have f72 := hts (.fieldLink RX5 72 "StickyHeapModel" "logged" "I") (by decide +kernel)
  have f75 := hts (.fieldLink RX5 75 "StickyHeapModel" "isOver" "Z") (by decide +kernel)
  have f164 := hts (.fieldLink RX5 164 "StickyHeapModel" "h" "J") (by decide +kernel)
  have L18 : ∀ (n : Nat) (c : HS) (v1 : Int32) (H : Heap) (locs : List Loc) (ls : Array Slot), pX5_digest_18 n c v1 = some (r0, c9) → va_P (dC, dI) vwCl (wM ad cA c) H → va_S (fA 15 ad s.heap.size) s.heap H locs → lv_has ls 3 [(0, .ref (ad 0)), (1, .int v1)] → W p l e (headSpec wsX5_digest ({ frames := 1, cells := 0, slots := 0, locals := 22 })).room s m ([.ref (ad 0)]).toArray below meth cd H locs 0 0 (MQ below (gQl (dC, dI) (wM ad cA) (fA 15 ad s.heap.size) r0 c9) ([.ref (ad 0)]).toArray s 0 0 (fA 15 ad s.heap.size)) (F0 m 18 ls []) := by
    intro n
    induction n with
    | zero =>
      intro c v1 H locs ls hM
      exact absurd (Eq.symm (hM : none = some (r0, c9))) sm_ne
    | succ n18 ih18 =>
      have L122 : ∀ (n : Nat) (c : HS) (v1 : Int32) (H : Heap) (locs : List Loc) (ls : Array Slot), pX5_digest_122 n c v1 = some (r0, c9) → va_P (dC, dI) vwCl (wM ad cA c) H → va_S (fA 15 ad s.heap.size) s.heap H locs → lv_has ls 3 [(0, .ref (ad 0)), (1, .int v1)] → W p l e (headSpec wsX5_digest ({ frames := 1, cells := 0, slots := 0, locals := 22 })).room s m ([.ref (ad 0)]).toArray below meth cd H locs 0 0 (MQ below (gQl (dC, dI) (wM ad cA) (fA 15 ad s.heap.size) r0 c9) ([.ref (ad 0)]).toArray s 0 0 (fA 15 ad s.heap.size)) (F0 m 122 ls []) := by
        intro n
        induction n with
        | zero =>
          intro c v1 H locs ls hM
          exact absurd (Eq.symm (hM : none = some (r0, c9))) sm_ne
        | succ n122 ih122 =>
          have L147 : ∀ (n : Nat) (c : HS) (v1 : Int32) (H : Heap) (locs : List Loc) (ls : Array Slot), pX5_digest_147 n c v1 = some (r0, c9) → va_P (dC, dI) vwCl (wM ad cA c) H → va_S (fA 15 ad s.heap.size) s.heap H locs → lv_has ls 3 [(0, .ref (ad 0)), (1, .int v1)] → W p l e (headSpec wsX5_digest ({ frames := 1, cells := 0, slots := 0, locals := 22 })).room s m ([.ref (ad 0)]).toArray below meth cd H locs 0 0 (MQ below (gQl (dC, dI) (wM ad cA) (fA 15 ad s.heap.size) r0 c9) ([.ref (ad 0)]).toArray s 0 0 (fA 15 ad s.heap.size)) (F0 m 147 ls []) := by
            intro n
            induction n with
            | zero =>
              intro c v1 H locs ls hM
              exact absurd (Eq.symm (hM : none = some (r0, c9))) sm_ne
            | succ n147 ih147 =>
              have L174 : ∀ (n : Nat) (c : HS) (v1 : Int32) (H : Heap) (locs : List Loc) (ls : Array Slot), pX5_digest_174 n c v1 = some (r0, c9) → va_P (dC, dI) vwCl (wM ad cA c) H → va_S (fA 15 ad s.heap.size) s.heap H locs → lv_has ls 3 [(0, .ref (ad 0)), (1, .int v1)] → W p l e (headSpec wsX5_digest ({ frames := 1, cells := 0, slots := 0, locals := 22 })).room s m ([.ref (ad 0)]).toArray below meth cd H locs 0 0 (MQ below (gQl (dC, dI) (wM ad cA) (fA 15 ad s.heap.size) r0 c9) ([.ref (ad 0)]).toArray s 0 0 (fA 15 ad s.heap.size)) (F0 m 174 ls []) := by
                intro n
                induction n with
                | zero =>
                  intro c v1 H locs ls hM
                  exact absurd (Eq.symm (hM : none = some (r0, c9))) sm_ne
                | succ n174 ih174 =>
                  have L237 : ∀ (n : Nat) (c : HS) (v1 : Int32) (H : Heap) (locs : List Loc) (ls : Array Slot), pX5_digest_237 n c v1 = some (r0, c9) → va_P (dC, dI) vwCl (wM ad cA c) H → va_S (fA 15 ad s.heap.size) s.heap H locs → lv_has ls 3 [(0, .ref (ad 0)), (1, .int v1)] → W p l e (headSpec wsX5_digest ({ frames := 1, cells := 0, slots := 0, locals := 22 })).room s m ([.ref (ad 0)]).toArray below meth cd H locs 0 0 (MQ below (gQl (dC, dI) (wM ad cA) (fA 15 ad s.heap.size) r0 c9) ([.ref (ad 0)]).toArray s 0 0 (fA 15 ad s.heap.size)) (F0 m 237 ls []) := by
                    intro n
                    induction n with
                    | zero =>
                      intro c v1 H locs ls hM
                      exact absurd (Eq.symm (hM : none = some (r0, c9))) sm_ne
                    | succ n237 ih237 =>
                      intro c v1 H locs ls hM hP hS hl
                      unfold pX5_digest_237 at hM
                      refine lv_iload_n hx hb dX5_digest_237 rfl (lv_at hl 1 rfl) ?_
                      refine lv_aload_n hx hb dX5_digest_238 rfl (lv_at hl 0 rfl) ?_
                      refine gget (v := .int (c.1 0 2)) hx hb hts i5 hown hK1 hP 0 rfl rfl 15 (by decide) f72 rfl rfl dX5_digest_239 ?_
                      refine lv_icmp_ge (tgt := 262) hx hb dX5_digest_242 (by decide) (fun e7 => ?_) (fun e7 => ?_)
                      · have hM := it_p e7 hM
                        refine lv_aload_n hx hb dX5_digest_262 rfl (lv_at hl 0 rfl) ?_
                        refine lv_aload_n hx hb dX5_digest_263 rfl (lv_at hl 0 rfl) ?_
                        refine gget (v := .int (c.1 0 3)) hx hb hts i5 hown hK1 hP 0 rfl rfl 16 (by decide) f75 rfl rfl dX5_digest_264 ?_
                        refine lv_if_eq (tgt := 274) hx hb dX5_digest_267 (by decide) (fun e3 => ?_) (fun e3 => ?_)
                        · have hM := it_p e3 hM
                          refine lv_lconst (v := 0) hx hb dX5_digest_274 (by decide) ?_
                          obtain ⟨c1, hc1, hM⟩ := tlA_some hM
                          refine gCv (gV (As := [.long 0]) (rest := []) ⟨hx, hb, hml, hown, hts⟩ (kX5_mix l dC dI ad cA hap _ c 0 _ hc1) (cwV 1 hts gX5_digest_X5_mix rfl rfl rfl (by decide +kernel) ⟨Nat.le_of_ble_eq_true rfl, Nat.le_of_ble_eq_true rfl⟩) (kM_st _ _) hK hP (va_recv hK1 hP (ci := 5) (q0 := 0) rfl rfl) rfl hl.1 rfl (Nat.le_of_ble_eq_true rfl) dX5_digest_275 ⟨Nat.zero_le _, Nat.zero_le _⟩) hS (fun H locs hP hS => ?_)
                          refine lv_aload_n hx hb dX5_digest_278 rfl (lv_at hl 0 rfl) ?_
                          refine gget (v := .long c1.2) hx hb hts i5 hown hK1 hP 0 rfl rfl 26 (by decide) f164 rfl rfl dX5_digest_279 ?_
                          exact W.lret hx hb hr (fun t ht hW => ⟨⟨_, _, rfl, pr2 hM, hPt ht hP⟩, hS.F ht⟩) hS.2.2 dX5_digest_282
                        · have hM := it_n e3 hM
                          refine lv_lconst (v := 1) hx hb dX5_digest_270 (by decide) ?_
                          refine lv_goto (tgt := 275) hx hb dX5_digest_271 (by decide) ?_
                          obtain ⟨c2, hc2, hM⟩ := tlA_some hM
                          refine gCv (gV (As := [.long 1]) (rest := []) ⟨hx, hb, hml, hown, hts⟩ (kX5_mix l dC dI ad cA hap _ c 1 _ hc2) (cwV 1 hts gX5_digest_X5_mix rfl rfl rfl (by decide +kernel) ⟨Nat.le_of_ble_eq_true rfl, Nat.le_of_ble_eq_true rfl⟩) (kM_st _ _) hK hP (va_recv hK1 hP (ci := 5) (q0 := 0) rfl rfl) rfl hl.1 rfl (Nat.le_of_ble_eq_true rfl) dX5_digest_275 ⟨Nat.zero_le _, Nat.zero_le _⟩) hS (fun H locs hP hS => ?_)
                          refine lv_aload_n hx hb dX5_digest_278 rfl (lv_at hl 0 rfl) ?_
                          refine gget (v := .long c2.2) hx hb hts i5 hown hK1 hP 0 rfl rfl 26 (by decide) f164 rfl rfl dX5_digest_279 ?_
                          exact W.lret hx hb hr (fun t ht hW => ⟨⟨_, _, rfl, pr2 hM, hPt ht hP⟩, hS.F ht⟩) hS.2.2 dX5_digest_282
                      · have hM := it_n e7 hM
                        refine lv_aload_n hx hb dX5_digest_245 rfl (lv_at hl 0 rfl) ?_
                        refine lv_aload_n hx hb dX5_digest_246 rfl (lv_at hl 0 rfl) ?_
                        refine gget (v := .ref (ad 13)) hx hb hts i5 hown hK1 hP 0 rfl rfl 14 (by decide) f51 rfl rfl dX5_digest_247 ?_
                        refine lv_iload_n hx hb dX5_digest_250 rfl (lv_at hl 1 rfl) ?_
                        obtain ⟨h5, x4, hx4, hM⟩ := ldA_some sm_ne hM
                        refine gald hx hb hK1 hP 13 12 rfl rfl h5 hx4 dX5_digest_251 ?_
                        refine lv_i2l hx hb dX5_digest_252 rfl ?_
                        obtain ⟨c6, hc6, hM⟩ := tlA_some hM
                        refine gCv (gV (As := [.long x4.toInt64]) (rest := []) ⟨hx, hb, hml, hown, hts⟩ (kX5_mix l dC dI ad cA hap _ c x4.toInt64 _ hc6) (cwV 1 hts gX5_digest_X5_mix rfl rfl rfl (by decide +kernel) ⟨Nat.le_of_ble_eq_true rfl, Nat.le_of_ble_eq_true rfl⟩) (kM_st _ _) hK hP (va_recv hK1 hP (ci := 5) (q0 := 0) rfl rfl) rfl hl.1 rfl (Nat.le_of_ble_eq_true rfl) dX5_digest_253 ⟨Nat.zero_le _, Nat.zero_le _⟩) hS (fun H locs hP hS => ?_)
                        refine lv_iinc (v := v1 + 1) (lv' := [(1, .int (v1 + 1)), (0, .ref (ad 0))]) hx hb dX5_digest_256 hl (k := 1) rfl rfl (by decide) rfl (fun ls hl => ?_)
                        refine lv_goto (tgt := 237) hx hb dX5_digest_259 (by decide) ?_
                        exact ih237 _ _ _ _ _ hM hP hS (lv_sub hl [1, 0] rfl)
                  have L208 : ∀ (c : HS) (v1 : Int32) (s1 : Int64) (H : Heap) (locs : List Loc) (ls : Array Slot), pX5_digest_208 (pX5_digest_174 n174) c v1 s1 = some (r0, c9) → va_P (dC, dI) vwCl (wM ad cA c) H → va_S (fA 15 ad s.heap.size) s.heap H locs → lv_has ls 3 [(0, .ref (ad 0)), (1, .int v1)] → W p l e (headSpec wsX5_digest ({ frames := 1, cells := 0, slots := 0, locals := 22 })).room s m ([.ref (ad 0)]).toArray below meth cd H locs 0 0 (MQ below (gQl (dC, dI) (wM ad cA) (fA 15 ad s.heap.size) r0 c9) ([.ref (ad 0)]).toArray s 0 0 (fA 15 ad s.heap.size)) (F0 m 208 ls [.long s1, .ref (ad 0)]) := by
                    intro c v1 s1 H locs ls hM hP hS hl
                    unfold pX5_digest_208 at hM
                    obtain ⟨c8, hc8, hM⟩ := tlA_some hM
                    refine gCv (gV (As := [.long s1]) (rest := []) ⟨hx, hb, hml, hown, hts⟩ (kX5_mix l dC dI ad cA hap _ c s1 _ hc8) (cwV 1 hts gX5_digest_X5_mix rfl rfl rfl (by decide +kernel) ⟨Nat.le_of_ble_eq_true rfl, Nat.le_of_ble_eq_true rfl⟩) (kM_st _ _) hK hP (va_recv hK1 hP (ci := 5) (q0 := 0) rfl rfl) rfl hl.1 rfl (Nat.le_of_ble_eq_true rfl) dX5_digest_208 ⟨Nat.zero_le _, Nat.zero_le _⟩) hS (fun H locs hP hS => ?_)
                    refine lv_aload_n hx hb dX5_digest_211 rfl (lv_at hl 0 rfl) ?_
                    refine lv_aload_n hx hb dX5_digest_212 rfl (lv_at hl 0 rfl) ?_
                    refine gget (v := .ref (ad 4)) hx hb hts i5 hown hK1 hP 0 rfl rfl 4 (by decide) f24 rfl rfl dX5_digest_213 ?_
                    refine lv_iload_n hx hb dX5_digest_216 rfl (lv_at hl 1 rfl) ?_
                    obtain ⟨h10, x9, hx9, hM⟩ := ldA_some sm_ne hM
                    refine gzld hx hb hK1 hP 4 3 rfl rfl h10 hx9 dX5_digest_217 ?_
                    refine lv_if_eq (tgt := 225) hx hb dX5_digest_218 (by decide) (fun e13 => ?_) (fun e13 => ?_)
                    · have hM := it_p e13 hM
                      refine lv_lconst (v := 0) hx hb dX5_digest_225 (by decide) ?_
                      obtain ⟨c11, hc11, hM⟩ := tlA_some hM
                      refine gCv (gV (As := [.long 0]) (rest := []) ⟨hx, hb, hml, hown, hts⟩ (kX5_mix l dC dI ad cA hap _ c8 0 _ hc11) (cwV 1 hts gX5_digest_X5_mix rfl rfl rfl (by decide +kernel) ⟨Nat.le_of_ble_eq_true rfl, Nat.le_of_ble_eq_true rfl⟩) (kM_st _ _) hK hP (va_recv hK1 hP (ci := 5) (q0 := 0) rfl rfl) rfl hl.1 rfl (Nat.le_of_ble_eq_true rfl) dX5_digest_226 ⟨Nat.zero_le _, Nat.zero_le _⟩) hS (fun H locs hP hS => ?_)
                      refine lv_iinc (v := v1 + 1) (lv' := [(1, .int (v1 + 1)), (0, .ref (ad 0))]) hx hb dX5_digest_229 hl (k := 1) rfl rfl (by decide) rfl (fun ls hl => ?_)
                      refine lv_goto (tgt := 174) hx hb dX5_digest_232 (by decide) ?_
                      exact ih174 _ _ _ _ _ hM hP hS (lv_sub hl [1, 0] rfl)
                    · have hM := it_n e13 hM
                      refine lv_lconst (v := 1) hx hb dX5_digest_221 (by decide) ?_
                      refine lv_goto (tgt := 226) hx hb dX5_digest_222 (by decide) ?_
                      obtain ⟨c12, hc12, hM⟩ := tlA_some hM
                      refine gCv (gV (As := [.long 1]) (rest := []) ⟨hx, hb, hml, hown, hts⟩ (kX5_mix l dC dI ad cA hap _ c8 1 _ hc12) (cwV 1 hts gX5_digest_X5_mix rfl rfl rfl (by decide +kernel) ⟨Nat.le_of_ble_eq_true rfl, Nat.le_of_ble_eq_true rfl⟩) (kM_st _ _) hK hP (va_recv hK1 hP (ci := 5) (q0 := 0) rfl rfl) rfl hl.1 rfl (Nat.le_of_ble_eq_true rfl) dX5_digest_226 ⟨Nat.zero_le _, Nat.zero_le _⟩) hS (fun H locs hP hS => ?_)
                      refine lv_iinc (v := v1 + 1) (lv' := [(1, .int (v1 + 1)), (0, .ref (ad 0))]) hx hb dX5_digest_229 hl (k := 1) rfl rfl (by decide) rfl (fun ls hl => ?_)
                      refine lv_goto (tgt := 174) hx hb dX5_digest_232 (by decide) ?_
                      exact ih174 _ _ _ _ _ hM hP hS (lv_sub hl [1, 0] rfl)
                  intro c v1 H locs ls hM hP hS hl
                  unfold pX5_digest_174 at hM
                  refine lv_iload_n hx hb dX5_digest_174 rfl (lv_at hl 1 rfl) ?_
                  refine lv_aload_n hx hb dX5_digest_175 rfl (lv_at hl 0 rfl) ?_
                  refine gget (v := .int (c.1 0 0)) hx hb hts i5 hown hK1 hP 0 rfl rfl 0 (by decide) f7 rfl rfl dX5_digest_176 ?_
                  refine lv_icmp_ge (tgt := 235) hx hb dX5_digest_179 (by decide) (fun e20 => ?_) (fun e20 => ?_)
                  · have hM := it_p e20 hM
                    refine lv_iconst (v := 0) hx hb dX5_digest_235 (by decide) ?_
                    refine lv_istore_n (lv' := [(1, .int 0), (0, .ref (ad 0))]) hx hb dX5_digest_236 rfl hl (by decide) rfl (fun ls hl => ?_)
                    exact L237 _ _ _ _ _ _ hM hP hS (lv_sub hl [1, 0] rfl)
                  · have hM := it_n e20 hM
                    refine lv_aload_n hx hb dX5_digest_182 rfl (lv_at hl 0 rfl) ?_
                    refine lv_aload_n hx hb dX5_digest_183 rfl (lv_at hl 0 rfl) ?_
                    refine gget (v := .ref (ad 1)) hx hb hts i5 hown hK1 hP 0 rfl rfl 1 (by decide) f13 rfl rfl dX5_digest_184 ?_
                    refine lv_iload_n hx hb dX5_digest_187 rfl (lv_at hl 1 rfl) ?_
                    obtain ⟨h15, x14, hx14, hM⟩ := ldA_some sm_ne hM
                    refine gald hx hb hK1 hP 1 0 rfl rfl h15 hx14 dX5_digest_188 ?_
                    refine lv_i2l hx hb dX5_digest_189 rfl ?_
                    obtain ⟨c16, hc16, hM⟩ := tlA_some hM
                    refine gCv (gV (As := [.long x14.toInt64]) (rest := []) ⟨hx, hb, hml, hown, hts⟩ (kX5_mix l dC dI ad cA hap _ c x14.toInt64 _ hc16) (cwV 1 hts gX5_digest_X5_mix rfl rfl rfl (by decide +kernel) ⟨Nat.le_of_ble_eq_true rfl, Nat.le_of_ble_eq_true rfl⟩) (kM_st _ _) hK hP (va_recv hK1 hP (ci := 5) (q0 := 0) rfl rfl) rfl hl.1 rfl (Nat.le_of_ble_eq_true rfl) dX5_digest_190 ⟨Nat.zero_le _, Nat.zero_le _⟩) hS (fun H locs hP hS => ?_)
                    refine lv_aload_n hx hb dX5_digest_193 rfl (lv_at hl 0 rfl) ?_
                    refine lv_aload_n hx hb dX5_digest_194 rfl (lv_at hl 0 rfl) ?_
                    refine gget (v := .ref (ad 3)) hx hb hts i5 hown hK1 hP 0 rfl rfl 3 (by decide) f20 rfl rfl dX5_digest_195 ?_
                    refine lv_iload_n hx hb dX5_digest_198 rfl (lv_at hl 1 rfl) ?_
                    obtain ⟨h18, x17, hx17, hM⟩ := ldA_some sm_ne hM
                    refine gzld hx hb hK1 hP 3 2 rfl rfl h18 hx17 dX5_digest_199 ?_
                    refine lv_if_eq (tgt := 207) hx hb dX5_digest_200 (by decide) (fun e19 => ?_) (fun e19 => ?_)
                    · have hM := it_p e19 hM
                      refine lv_lconst (v := 0) hx hb dX5_digest_207 (by decide) ?_
                      exact L208 _ _ _ _ _ _ hM hP hS (lv_sub hl [0, 1] rfl)
                    · have hM := it_n e19 hM
                      refine lv_lconst (v := 1) hx hb dX5_digest_203 (by decide) ?_
                      refine lv_goto (tgt := 208) hx hb dX5_digest_204 (by decide) ?_
                      exact L208 _ _ _ _ _ _ hM hP hS (lv_sub hl [0, 1] rfl)
              intro c v1 H locs ls hM hP hS hl
              unfold pX5_digest_147 at hM
              refine lv_iload_n hx hb dX5_digest_147 rfl (lv_at hl 1 rfl) ?_
              refine lv_aload_n hx hb dX5_digest_148 rfl (lv_at hl 0 rfl) ?_
              refine gget (v := .int (c.1 0 1)) hx hb hts i5 hown hK1 hP 0 rfl rfl 13 (by decide) f69 rfl rfl dX5_digest_149 ?_
              refine lv_icmp_ge (tgt := 172) hx hb dX5_digest_152 (by decide) (fun e24 => ?_) (fun e24 => ?_)
              · have hM := it_p e24 hM
                refine lv_iconst (v := 0) hx hb dX5_digest_172 (by decide) ?_
                refine lv_istore_n (lv' := [(1, .int 0), (0, .ref (ad 0))]) hx hb dX5_digest_173 rfl hl (by decide) rfl (fun ls hl => ?_)
                exact L174 _ _ _ _ _ _ hM hP hS (lv_sub hl [1, 0] rfl)
              · have hM := it_n e24 hM
                refine lv_aload_n hx hb dX5_digest_155 rfl (lv_at hl 0 rfl) ?_
                refine lv_aload_n hx hb dX5_digest_156 rfl (lv_at hl 0 rfl) ?_
                refine gget (v := .ref (ad 12)) hx hb hts i5 hown hK1 hP 0 rfl rfl 12 (by decide) f48 rfl rfl dX5_digest_157 ?_
                refine lv_iload_n hx hb dX5_digest_160 rfl (lv_at hl 1 rfl) ?_
                obtain ⟨h22, x21, hx21, hM⟩ := ldA_some sm_ne hM
                refine gald hx hb hK1 hP 12 11 rfl rfl h22 hx21 dX5_digest_161 ?_
                refine lv_i2l hx hb dX5_digest_162 rfl ?_
                obtain ⟨c23, hc23, hM⟩ := tlA_some hM
                refine gCv (gV (As := [.long x21.toInt64]) (rest := []) ⟨hx, hb, hml, hown, hts⟩ (kX5_mix l dC dI ad cA hap _ c x21.toInt64 _ hc23) (cwV 1 hts gX5_digest_X5_mix rfl rfl rfl (by decide +kernel) ⟨Nat.le_of_ble_eq_true rfl, Nat.le_of_ble_eq_true rfl⟩) (kM_st _ _) hK hP (va_recv hK1 hP (ci := 5) (q0 := 0) rfl rfl) rfl hl.1 rfl (Nat.le_of_ble_eq_true rfl) dX5_digest_163 ⟨Nat.zero_le _, Nat.zero_le _⟩) hS (fun H locs hP hS => ?_)
                refine lv_iinc (v := v1 + 1) (lv' := [(1, .int (v1 + 1)), (0, .ref (ad 0))]) hx hb dX5_digest_166 hl (k := 1) rfl rfl (by decide) rfl (fun ls hl => ?_)
                refine lv_goto (tgt := 147) hx hb dX5_digest_169 (by decide) ?_
                exact ih147 _ _ _ _ _ hM hP hS (lv_sub hl [1, 0] rfl)
          intro c v1 H locs ls hM hP hS hl
          unfold pX5_digest_122 at hM
          refine lv_iload_n hx hb dX5_digest_122 rfl (lv_at hl 1 rfl) ?_
          refine lv_bipush (v := 10) hx hb dX5_digest_123 (by decide) ?_
          refine lv_icmp_ge (tgt := 145) hx hb dX5_digest_125 (by decide) (fun e28 => ?_) (fun e28 => ?_)
          · have hM := it_p e28 hM
            refine lv_iconst (v := 0) hx hb dX5_digest_145 (by decide) ?_
            refine lv_istore_n (lv' := [(1, .int 0), (0, .ref (ad 0))]) hx hb dX5_digest_146 rfl hl (by decide) rfl (fun ls hl => ?_)
            exact L147 _ _ _ _ _ _ hM hP hS (lv_sub hl [1, 0] rfl)
          · have hM := it_n e28 hM
            refine lv_aload_n hx hb dX5_digest_128 rfl (lv_at hl 0 rfl) ?_
            refine lv_aload_n hx hb dX5_digest_129 rfl (lv_at hl 0 rfl) ?_
            refine gget (v := .ref (ad 11)) hx hb hts i5 hown hK1 hP 0 rfl rfl 11 (by decide) f45 rfl rfl dX5_digest_130 ?_
            refine lv_iload_n hx hb dX5_digest_133 rfl (lv_at hl 1 rfl) ?_
            obtain ⟨h26, x25, hx25, hM⟩ := ldA_some sm_ne hM
            refine gald hx hb hK1 hP 11 10 rfl rfl h26 hx25 dX5_digest_134 ?_
            refine lv_i2l hx hb dX5_digest_135 rfl ?_
            obtain ⟨c27, hc27, hM⟩ := tlA_some hM
            refine gCv (gV (As := [.long x25.toInt64]) (rest := []) ⟨hx, hb, hml, hown, hts⟩ (kX5_mix l dC dI ad cA hap _ c x25.toInt64 _ hc27) (cwV 1 hts gX5_digest_X5_mix rfl rfl rfl (by decide +kernel) ⟨Nat.le_of_ble_eq_true rfl, Nat.le_of_ble_eq_true rfl⟩) (kM_st _ _) hK hP (va_recv hK1 hP (ci := 5) (q0 := 0) rfl rfl) rfl hl.1 rfl (Nat.le_of_ble_eq_true rfl) dX5_digest_136 ⟨Nat.zero_le _, Nat.zero_le _⟩) hS (fun H locs hP hS => ?_)
            refine lv_iinc (v := v1 + 1) (lv' := [(1, .int (v1 + 1)), (0, .ref (ad 0))]) hx hb dX5_digest_139 hl (k := 1) rfl rfl (by decide) rfl (fun ls hl => ?_)
            refine lv_goto (tgt := 122) hx hb dX5_digest_142 (by decide) ?_
            exact ih122 _ _ _ _ _ hM hP hS (lv_sub hl [1, 0] rfl)
      have L86 : ∀ (n : Nat) (c : HS) (v1 : Int32) (v2 : Int32) (H : Heap) (locs : List Loc) (ls : Array Slot), pX5_digest_86 (pX5_digest_18 n18) n c v1 v2 = some (r0, c9) → va_P (dC, dI) vwCl (wM ad cA c) H → va_S (fA 15 ad s.heap.size) s.heap H locs → lv_has ls 3 [(0, .ref (ad 0)), (1, .int v1), (2, .int v2)] → W p l e (headSpec wsX5_digest ({ frames := 1, cells := 0, slots := 0, locals := 22 })).room s m ([.ref (ad 0)]).toArray below meth cd H locs 0 0 (MQ below (gQl (dC, dI) (wM ad cA) (fA 15 ad s.heap.size) r0 c9) ([.ref (ad 0)]).toArray s 0 0 (fA 15 ad s.heap.size)) (F0 m 86 ls []) := by
        intro n
        induction n with
        | zero =>
          intro c v1 v2 H locs ls hM
          exact absurd (Eq.symm (hM : none = some (r0, c9))) sm_ne
        | succ n86 ih86 =>
          intro c v1 v2 H locs ls hM hP hS hl
          unfold pX5_digest_86 at hM
          refine lv_iload_n hx hb dX5_digest_86 rfl (lv_at hl 2 rfl) ?_
          refine lv_aload_n hx hb dX5_digest_87 rfl (lv_at hl 0 rfl) ?_
          refine lv_iload_n hx hb dX5_digest_88 rfl (lv_at hl 1 rfl) ?_
          obtain ⟨r30, h29, hM⟩ := bd1_some sm_ne hM
          refine gCi (gV (As := [.int v1]) (rest := [.int v2]) ⟨hx, hb, hml, hown, hts⟩ (kX5_size l dC dI ad cA hap _ c v1 _ h29) (cwV 1 hts gX5_digest_X5_size rfl rfl rfl (by decide +kernel) ⟨Nat.le_of_ble_eq_true rfl, Nat.le_of_ble_eq_true rfl⟩) (kM_st _ _) hK hP (va_recv hK1 hP (ci := 5) (q0 := 0) rfl rfl) rfl hl.1 rfl (Nat.le_of_ble_eq_true rfl) dX5_digest_89 ⟨Nat.zero_le _, Nat.zero_le _⟩) hS (fun H locs hP hS => ?_)
          refine lv_icmp_ge (tgt := 114) hx hb dX5_digest_92 (by decide) (fun e34 => ?_) (fun e34 => ?_)
          · have hM := it_p e34 hM
            refine lv_iinc (v := v1 + 1) (lv' := [(1, .int (v1 + 1)), (0, .ref (ad 0)), (2, .int v2)]) hx hb dX5_digest_114 hl (k := 1) rfl rfl (by decide) rfl (fun ls hl => ?_)
            refine lv_goto (tgt := 18) hx hb dX5_digest_117 (by decide) ?_
            exact ih18 _ _ _ _ _ hM hP hS (lv_sub hl [1, 0] rfl)
          · have hM := it_n e34 hM
            refine lv_aload_n hx hb dX5_digest_95 rfl (lv_at hl 0 rfl) ?_
            refine lv_aload_n hx hb dX5_digest_96 rfl (lv_at hl 0 rfl) ?_
            refine gget (v := .ref (ad 5)) hx hb hts i5 hown hK1 hP 0 rfl rfl 5 (by decide) f27 rfl rfl dX5_digest_97 ?_
            refine lv_iload_n hx hb dX5_digest_100 rfl (lv_at hl 1 rfl) ?_
            refine lv_iload_n hx hb dX5_digest_101 rfl (lv_at hl 2 rfl) ?_
            refine lv_iadd hx hb dX5_digest_102 ?_
            obtain ⟨h32, x31, hx31, hM⟩ := ldA_some sm_ne hM
            refine gald hx hb hK1 hP 5 4 rfl rfl h32 hx31 dX5_digest_103 ?_
            refine lv_i2l hx hb dX5_digest_104 rfl ?_
            obtain ⟨c33, hc33, hM⟩ := tlA_some hM
            refine gCv (gV (As := [.long x31.toInt64]) (rest := []) ⟨hx, hb, hml, hown, hts⟩ (kX5_mix l dC dI ad cA hap _ c x31.toInt64 _ hc33) (cwV 1 hts gX5_digest_X5_mix rfl rfl rfl (by decide +kernel) ⟨Nat.le_of_ble_eq_true rfl, Nat.le_of_ble_eq_true rfl⟩) (kM_st _ _) hK hP (va_recv hK1 hP (ci := 5) (q0 := 0) rfl rfl) rfl hl.1 rfl (Nat.le_of_ble_eq_true rfl) dX5_digest_105 ⟨Nat.zero_le _, Nat.zero_le _⟩) hS (fun H locs hP hS => ?_)
            refine lv_iinc (v := v2 + 1) (lv' := [(2, .int (v2 + 1)), (0, .ref (ad 0)), (1, .int v1)]) hx hb dX5_digest_108 hl (k := 2) rfl rfl (by decide) rfl (fun ls hl => ?_)
            refine lv_goto (tgt := 86) hx hb dX5_digest_111 (by decide) ?_
            exact ih86 _ _ _ _ _ _ hM hP hS (lv_sub hl [1, 2, 0] rfl)
      intro c v1 H locs ls hM hP hS hl
      unfold pX5_digest_18 at hM
      refine lv_iload_n hx hb dX5_digest_18 rfl (lv_at hl 1 rfl) ?_
      refine lv_bipush (v := 64) hx hb dX5_digest_19 (by decide) ?_
      refine lv_aload_n hx hb dX5_digest_21 rfl (lv_at hl 0 rfl) ?_
      refine gget (v := .int (c.1 0 0)) hx hb hts i5 hown hK1 hP 0 rfl rfl 0 (by decide) f7 rfl rfl dX5_digest_22 ?_
      refine lv_imul hx hb dX5_digest_25 ?_
      refine lv_icmp_ge (tgt := 120) hx hb dX5_digest_26 (by decide) (fun e50 => ?_) (fun e50 => ?_)
      · have hM := it_p e50 hM
        refine lv_iconst (v := 0) hx hb dX5_digest_120 (by decide) ?_
        refine lv_istore_n (lv' := [(1, .int 0), (0, .ref (ad 0))]) hx hb dX5_digest_121 rfl hl (by decide) rfl (fun ls hl => ?_)
        exact L122 _ _ _ _ _ _ hM hP hS (lv_sub hl [1, 0] rfl)
      · have hM := it_n e50 hM
        refine lv_aload_n hx hb dX5_digest_29 rfl (lv_at hl 0 rfl) ?_
        refine gget (v := .ref (ad 6)) hx hb hts i5 hown hK1 hP 0 rfl rfl 6 (by decide) f30 rfl rfl dX5_digest_30 ?_
        refine lv_iload_n hx hb dX5_digest_33 rfl (lv_at hl 1 rfl) ?_
        obtain ⟨h36, x35, hx35, hM⟩ := ldA_some sm_ne hM
        refine gzld hx hb hK1 hP 6 5 rfl rfl h36 hx35 dX5_digest_34 ?_
        refine lv_if_eq (tgt := 114) hx hb dX5_digest_35 (by decide) (fun e49 => ?_) (fun e49 => ?_)
        · have hM := it_p e49 hM
          refine lv_iinc (v := v1 + 1) (lv' := [(1, .int (v1 + 1)), (0, .ref (ad 0))]) hx hb dX5_digest_114 hl (k := 1) rfl rfl (by decide) rfl (fun ls hl => ?_)
          refine lv_goto (tgt := 18) hx hb dX5_digest_117 (by decide) ?_
          exact ih18 _ _ _ _ _ hM hP hS (lv_sub hl [1, 0] rfl)
        · have hM := it_n e49 hM
          refine lv_aload_n hx hb dX5_digest_38 rfl (lv_at hl 0 rfl) ?_
          refine lv_iload_n hx hb dX5_digest_39 rfl (lv_at hl 1 rfl) ?_
          refine lv_i2l hx hb dX5_digest_40 rfl ?_
          obtain ⟨c37, hc37, hM⟩ := tlA_some hM
          refine gCv (gV (As := [.long v1.toInt64]) (rest := []) ⟨hx, hb, hml, hown, hts⟩ (kX5_mix l dC dI ad cA hap _ c v1.toInt64 _ hc37) (cwV 1 hts gX5_digest_X5_mix rfl rfl rfl (by decide +kernel) ⟨Nat.le_of_ble_eq_true rfl, Nat.le_of_ble_eq_true rfl⟩) (kM_st _ _) hK hP (va_recv hK1 hP (ci := 5) (q0 := 0) rfl rfl) rfl hl.1 rfl (Nat.le_of_ble_eq_true rfl) dX5_digest_41 ⟨Nat.zero_le _, Nat.zero_le _⟩) hS (fun H locs hP hS => ?_)
          refine lv_aload_n hx hb dX5_digest_44 rfl (lv_at hl 0 rfl) ?_
          refine lv_aload_n hx hb dX5_digest_45 rfl (lv_at hl 0 rfl) ?_
          refine gget (v := .ref (ad 9)) hx hb hts i5 hown hK1 hP 0 rfl rfl 9 (by decide) f39 rfl rfl dX5_digest_46 ?_
          refine lv_iload_n hx hb dX5_digest_49 rfl (lv_at hl 1 rfl) ?_
          obtain ⟨h39, x38, hx38, hM⟩ := ldA_some sm_ne hM
          refine gald hx hb hK1 hP 9 8 rfl rfl h39 hx38 dX5_digest_50 ?_
          refine lv_i2l hx hb dX5_digest_51 rfl ?_
          obtain ⟨c40, hc40, hM⟩ := tlA_some hM
          refine gCv (gV (As := [.long x38.toInt64]) (rest := []) ⟨hx, hb, hml, hown, hts⟩ (kX5_mix l dC dI ad cA hap _ c37 x38.toInt64 _ hc40) (cwV 1 hts gX5_digest_X5_mix rfl rfl rfl (by decide +kernel) ⟨Nat.le_of_ble_eq_true rfl, Nat.le_of_ble_eq_true rfl⟩) (kM_st _ _) hK hP (va_recv hK1 hP (ci := 5) (q0 := 0) rfl rfl) rfl hl.1 rfl (Nat.le_of_ble_eq_true rfl) dX5_digest_52 ⟨Nat.zero_le _, Nat.zero_le _⟩) hS (fun H locs hP hS => ?_)
          refine lv_aload_n hx hb dX5_digest_55 rfl (lv_at hl 0 rfl) ?_
          refine lv_aload_n hx hb dX5_digest_56 rfl (lv_at hl 0 rfl) ?_
          refine gget (v := .ref (ad 10)) hx hb hts i5 hown hK1 hP 0 rfl rfl 10 (by decide) f42 rfl rfl dX5_digest_57 ?_
          refine lv_iload_n hx hb dX5_digest_60 rfl (lv_at hl 1 rfl) ?_
          obtain ⟨h42, x41, hx41, hM⟩ := ldA_some sm_ne hM
          refine gald hx hb hK1 hP 10 9 rfl rfl h42 hx41 dX5_digest_61 ?_
          refine lv_i2l hx hb dX5_digest_62 rfl ?_
          obtain ⟨c43, hc43, hM⟩ := tlA_some hM
          refine gCv (gV (As := [.long x41.toInt64]) (rest := []) ⟨hx, hb, hml, hown, hts⟩ (kX5_mix l dC dI ad cA hap _ c40 x41.toInt64 _ hc43) (cwV 1 hts gX5_digest_X5_mix rfl rfl rfl (by decide +kernel) ⟨Nat.le_of_ble_eq_true rfl, Nat.le_of_ble_eq_true rfl⟩) (kM_st _ _) hK hP (va_recv hK1 hP (ci := 5) (q0 := 0) rfl rfl) rfl hl.1 rfl (Nat.le_of_ble_eq_true rfl) dX5_digest_63 ⟨Nat.zero_le _, Nat.zero_le _⟩) hS (fun H locs hP hS => ?_)
          refine lv_aload_n hx hb dX5_digest_66 rfl (lv_at hl 0 rfl) ?_
          refine lv_aload_n hx hb dX5_digest_67 rfl (lv_at hl 0 rfl) ?_
          refine gget (v := .ref (ad 7)) hx hb hts i5 hown hK1 hP 0 rfl rfl 7 (by decide) f33 rfl rfl dX5_digest_68 ?_
          refine lv_iload_n hx hb dX5_digest_71 rfl (lv_at hl 1 rfl) ?_
          obtain ⟨h45, x44, hx44, hM⟩ := ldA_some sm_ne hM
          refine gzld hx hb hK1 hP 7 6 rfl rfl h45 hx44 dX5_digest_72 ?_
          refine lv_if_eq (tgt := 80) hx hb dX5_digest_73 (by decide) (fun e48 => ?_) (fun e48 => ?_)
          · have hM := it_p e48 hM
            refine lv_lconst (v := 0) hx hb dX5_digest_80 (by decide) ?_
            obtain ⟨c46, hc46, hM⟩ := tlA_some hM
            refine gCv (gV (As := [.long 0]) (rest := []) ⟨hx, hb, hml, hown, hts⟩ (kX5_mix l dC dI ad cA hap _ c43 0 _ hc46) (cwV 1 hts gX5_digest_X5_mix rfl rfl rfl (by decide +kernel) ⟨Nat.le_of_ble_eq_true rfl, Nat.le_of_ble_eq_true rfl⟩) (kM_st _ _) hK hP (va_recv hK1 hP (ci := 5) (q0 := 0) rfl rfl) rfl hl.1 rfl (Nat.le_of_ble_eq_true rfl) dX5_digest_81 ⟨Nat.zero_le _, Nat.zero_le _⟩) hS (fun H locs hP hS => ?_)
            refine lv_iconst (v := 0) hx hb dX5_digest_84 (by decide) ?_
            refine lv_istore_n (lv' := [(2, .int 0), (0, .ref (ad 0)), (1, .int v1)]) hx hb dX5_digest_85 rfl hl (by decide) rfl (fun ls hl => ?_)
            exact L86 _ _ _ _ _ _ _ hM hP hS (lv_sub hl [1, 2, 0] rfl)
          · have hM := it_n e48 hM
            refine lv_lconst (v := 1) hx hb dX5_digest_76 (by decide) ?_
            refine lv_goto (tgt := 81) hx hb dX5_digest_77 (by decide) ?_
            obtain ⟨c47, hc47, hM⟩ := tlA_some hM
            refine gCv (gV (As := [.long 1]) (rest := []) ⟨hx, hb, hml, hown, hts⟩ (kX5_mix l dC dI ad cA hap _ c43 1 _ hc47) (cwV 1 hts gX5_digest_X5_mix rfl rfl rfl (by decide +kernel) ⟨Nat.le_of_ble_eq_true rfl, Nat.le_of_ble_eq_true rfl⟩) (kM_st _ _) hK hP (va_recv hK1 hP (ci := 5) (q0 := 0) rfl rfl) rfl hl.1 rfl (Nat.le_of_ble_eq_true rfl) dX5_digest_81 ⟨Nat.zero_le _, Nat.zero_le _⟩) hS (fun H locs hP hS => ?_)
            refine lv_iconst (v := 0) hx hb dX5_digest_84 (by decide) ?_
            refine lv_istore_n (lv' := [(2, .int 0), (0, .ref (ad 0)), (1, .int v1)]) hx hb dX5_digest_85 rfl hl (by decide) rfl (fun ls hl => ?_)
            exact L86 _ _ _ _ _ _ _ hM hP hS (lv_sub hl [1, 2, 0] rfl)
  have hl := lv_entry [.ref (ad 0)] (n := 3) (Nat.le_of_ble_eq_true rfl)
  rw [lg_entry_eq]
  generalize (lg_sl [.ref (ad 0)] ++ List.replicate (3 - (lg_sl [.ref (ad 0)]).length) Slot.unset).toArray = ls at hl ⊢
  have hl : lv_has ls 3 [(0, .ref (ad 0))] := hl
  have hP : va_P (dC, dI) vwCl (wM ad cA c) s.heap := hP
  unfold pX5_digest at hM
  refine lv_aload_n hx hb dX5_digest_0 rfl (lv_at hl 0 rfl) ?_
  refine lv_ldc2 (v := 43) hx hb hown (hts (.constantLong RX5 168 (43)) (by decide +kernel)) dX5_digest_1 ?_
  obtain ⟨c51, hc51, hM⟩ := pfL_some hM
  refine gput (w := wM ad cA) (c := c) (c1 := c51) (v := .long 43) hx hb hts i5 tyX5 tyX5_ok nmX5 hown hK1 hP (hD c) hS 0 rfl rfl 26 (by decide) f164 rfl rfl rfl rfl (Nat.le_of_ble_eq_true rfl) (by rw [hc51]; rfl) dX5_digest_4 (fun H locs hP hS => ?_)
  refine lv_aload_n hx hb dX5_digest_7 rfl (lv_at hl 0 rfl) ?_
  refine lv_aload_n hx hb dX5_digest_8 rfl (lv_at hl 0 rfl) ?_
  refine gget (v := .int (c51.1 0 0)) hx hb hts i5 hown hK1 hP 0 rfl rfl 0 (by decide) f7 rfl rfl dX5_digest_9 ?_
  refine lv_i2l hx hb dX5_digest_12 rfl ?_
  obtain ⟨c52, hc52, hM⟩ := tlA_some hM
  refine gCv (gV (As := [.long ((c51.1 0 0).toInt64)]) (rest := []) ⟨hx, hb, hml, hown, hts⟩ (kX5_mix l dC dI ad cA hap _ c51 ((c51.1 0 0).toInt64) _ hc52) (cwV 1 hts gX5_digest_X5_mix rfl rfl rfl (by decide +kernel) ⟨Nat.le_of_ble_eq_true rfl, Nat.le_of_ble_eq_true rfl⟩) (kM_st _ _) hK hP (va_recv hK1 hP (ci := 5) (q0 := 0) rfl rfl) rfl hl.1 rfl (Nat.le_of_ble_eq_true rfl) dX5_digest_13 ⟨Nat.zero_le _, Nat.zero_le _⟩) hS (fun H locs hP hS => ?_)
  refine lv_iconst (v := 0) hx hb dX5_digest_16 (by decide) ?_
  refine lv_istore_n (lv' := [(1, .int 0), (0, .ref (ad 0))]) hx hb dX5_digest_17 rfl hl (by decide) rfl (fun ls hl => ?_)
  exact L18 _ _ _ _ _ _ hM hP hS (lv_sub hl [1, 0] rfl)
