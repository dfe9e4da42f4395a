def at_X3_init (dC : Nat → ClassId) (dI : Nat → Nat → Nat) (A : Nat → Prop) (h0 : Nat) (t : State) : Prop := ∃ (q1 : Nat) (A1 : ClassId) (q2 : Nat) (A2 : ClassId) (q3 : Nat) (A3 : ClassId) (q4 : Nat) (A4 : ClassId) (q5 : Nat) (A5 : ClassId) (q6 : Nat) (A6 : ClassId) (q7 : Nat) (A7 : ClassId), va_P (dC, dI) vwCl [(h0, .inr (3, [.int 8, .int 512, .ref q1, .ref q2, .ref q3, .ref q4, .ref q5, .ref q6, .ref q7])), (q1, .inl (A1, 24, .inl (fun _ => 0))), (q2, .inl (A2, 24, .inl (fun _ => 0))), (q3, .inl (A3, 24, .inl (fun _ => 0))), (q4, .inl (A4, 1536, .inl (fun _ => 0))), (q5, .inl (A5, 768, .inl (fun _ => 0))), (q6, .inl (A6, 768, .inl (fun _ => 0))), (q7, .inl (A7, 768, .inl (fun _ => 0)))] t.heap ∧ va_K (dC, dI) vwCl [(A1, .int), (A2, .int), (A3, .int), (A4, .int), (A5, .int), (A6, .int), (A7, .int)] t ∧ va_D A [(h0, .inr (3, [.int 8, .int 512, .ref q1, .ref q2, .ref q3, .ref q4, .ref q5, .ref q6, .ref q7])), (q1, .inl (A1, 24, .inl (fun _ => 0))), (q2, .inl (A2, 24, .inl (fun _ => 0))), (q3, .inl (A3, 24, .inl (fun _ => 0))), (q4, .inl (A4, 1536, .inl (fun _ => 0))), (q5, .inl (A5, 768, .inl (fun _ => 0))), (q6, .inl (A6, 768, .inl (fun _ => 0))), (q7, .inl (A7, 768, .inl (fun _ => 0)))]
set_option maxHeartbeats 4000000 in
set_option maxRecDepth 100000 in
theorem iX3_init (l : Launch) (dC : Nat → ClassId) (dI : Nat → Nat → Nat) (h0 : Nat) (sz : Nat) : Met l yX3_init wsX3_init ({ frames := 1, cells := 7, slots := 3912, locals := 12 }) (va_Pc [.ref h0] (fun U => U.heap.size = sz ∧ va_P (dC, dI) vwCl [(h0, .inr (3, [.int 0, .int 0, .null, .null, .null, .null, .null, .null, .null]))] U.heap ∧ va_K (dC, dI) vwCl [] U ∧ va_D (fun _ => True) [(h0, .inr (3, [.int 0, .int 0, .null, .null, .null, .null, .null, .null, .null]))])) (va_Qv (fun _ : Unit => True) (fun _ t => at_X3_init dC dI (va_A [(h0, .inr (3, [.int 0, .int 0, .null, .null, .null, .null, .null, .null, .null]))] sz) h0 t) (va_A [(h0, .inr (3, [.int 0, .int 0, .null, .null, .null, .null, .null, .null, .null]))] sz)) 7 3912 (va_A [(h0, .inr (3, [.int 0, .int 0, .null, .null, .null, .null, .null, .null, .null]))] sz) := by
  refine Met.ofW (cc := cX3_init) (maxL := 1) (ret := none) (by decide) rfl ?_
  intro p e s m args below meth cd s₁ B hml hv
  obtain ⟨rfl, rfl, hP, hK, hD0⟩ := hv
  have hx := B.exec
  have hb := B.bytes
  have hr := B.returns
  have hts := atoms_spec (ws := wsX3_init) B.pre
  have hown : s.vm.findClass RX3 = some m.cls := findClass_of_methodNamed B.named
  have hlocks := B.notSynchronized
  have hin : meth.name = "<init>" := (name_of_methodNamed B.named B.method).1
  have hD := hD0.self (sz := s.heap.size)
  generalize hAe : va_A [(h0, .inr (3, [.int 0, .int 0, .null, .null, .null, .null, .null, .null, .null]))] s.heap.size = A at hD ⊢
  have hA : ∀ q : Nat, s.heap.size ≤ q → A q := fun q h => by rw [← hAe]; exact Or.inr h
  have hS : va_S A s.heap s.heap [] := va_S.rf
  have i3 : ∀ w ∈ u_ws RX3 TX3 9, w ∈ wsX3_init := by decide +kernel
  have f9 := hts (.fieldLink RX3 9 "StickyHeap$Space" "sort" "[I") (by decide +kernel)
  have f15 := hts (.fieldLink RX3 15 "StickyHeap$Space" "detail" "[I") (by decide +kernel)
  have f18 := hts (.fieldLink RX3 18 "StickyHeap$Space" "barred" "[I") (by decide +kernel)
  have f21 := hts (.fieldLink RX3 21 "StickyHeap$Space" "words" "[I") (by decide +kernel)
  have f24 := hts (.fieldLink RX3 24 "StickyHeap$Space" "references" "[I") (by decide +kernel)
  have f27 := hts (.fieldLink RX3 27 "StickyHeap$Space" "numbers" "[I") (by decide +kernel)
  have f30 := hts (.fieldLink RX3 30 "StickyHeap$Space" "age" "[I") (by decide +kernel)
  have f33 := hts (.fieldLink RX3 33 "StickyHeap$Space" "blocks" "I") (by decide +kernel)
  have f37 := hts (.fieldLink RX3 37 "StickyHeap$Space" "limit" "I") (by decide +kernel)
  have hl := lv_entry [.ref h0] (n := 1) (Nat.le_of_ble_eq_true rfl)
  rw [lg_entry_eq]
  generalize (lg_sl [.ref h0] ++ List.replicate (1 - (lg_sl [.ref h0]).length) Slot.unset).toArray = ls at hl ⊢
  have hl : lv_has ls 1 [(0, .ref h0)] := hl
  have hP : va_P (dC, dI) vwCl [(h0, .inr (3, [.int 0, .int 0, .null, .null, .null, .null, .null, .null, .null]))] s.heap := hP
  refine lv_aload_n hx hb dX3_init_0 rfl (lv_at hl 0 rfl) ?_
  refine W.objInit hx hb hown (hts (.methodLink RX3 3 objectInit) (by decide +kernel)) (hts (.instanceMethod objectInit) (by decide +kernel)) (hts (.code objectInit ⟨#[0xb1]⟩ 1 none) (List.mem_of_getElem? (i := 3) rfl)) rfl (by rw [hml]; exact hl.1) rfl dX3_init_1 (Nat.le_of_ble_eq_true rfl) (Nat.le_of_ble_eq_true rfl) ?_
  refine W.eq (g2 := F0 m 4 ls []) rfl ?_
  refine lv_aload_n hx hb dX3_init_4 rfl (lv_at hl 0 rfl) ?_
  refine lv_bipush (v := 24) hx hb dX3_init_5 (by decide) ?_
  refine va_newa (atype := .int) (n := 24) (ty := .int) (N' := 24) (a0 := (24, .inl (fun _ => 0))) hx hb (hts (.arrayClass .int) (by decide +kernel)) rfl hK hP hD hS hA (fun _ => rfl) (by decide) (by decide) (by decide) (Nat.le_of_ble_eq_true rfl) (Nat.le_of_ble_eq_true rfl) dX3_init_7 (fun q1 A1 H hK hP hD hS => ?_)
  have hP : va_P (dC, dI) vwCl [(h0, .inr (3, [.int 0, .int 0, .null, .null, .null, .null, .null, .null, .null])), (q1, .inl (A1, 24, .inl (fun _ => 0)))] H := hP
  have hD : va_D A [(h0, .inr (3, [.int 0, .int 0, .null, .null, .null, .null, .null, .null, .null])), (q1, .inl (A1, 24, .inl (fun _ => 0)))] := hD
  have hK : va_K (dC, dI) vwCl [(A1, .int)] s := hK
  refine W.widen (k := 1) (n := 24) (by omega) (by omega) ?_
  refine va_putF (D := (dC, dI)) (ci := 3) (v := .ref q1) (C := RX3) (T := TX3) (N := 9) hx hb hts i3 tyX3 tyX3_ok nmX3 hown hK hP hD hS 0 rfl rfl 2 (by decide) f9 (fun _ h9 => h9) rfl hin rfl (tyX3_ok 2 (by decide)) rfl rfl (Nat.le_of_ble_eq_true rfl) dX3_init_9 (fun H locs hP hD hS => ?_)
  have hP : va_P (dC, dI) vwCl [(h0, .inr (3, [.int 0, .int 0, .ref q1, .null, .null, .null, .null, .null, .null])), (q1, .inl (A1, 24, .inl (fun _ => 0)))] H := hP
  have hD : va_D A [(h0, .inr (3, [.int 0, .int 0, .ref q1, .null, .null, .null, .null, .null, .null])), (q1, .inl (A1, 24, .inl (fun _ => 0)))] := hD
  refine lv_aload_n hx hb dX3_init_12 rfl (lv_at hl 0 rfl) ?_
  refine lv_bipush (v := 24) hx hb dX3_init_13 (by decide) ?_
  refine va_newa (atype := .int) (n := 24) (ty := .int) (N' := 24) (a0 := (24, .inl (fun _ => 0))) hx hb (hts (.arrayClass .int) (by decide +kernel)) rfl hK hP hD hS hA (fun _ => rfl) (by decide) (by decide) (by decide) (Nat.le_of_ble_eq_true rfl) (Nat.le_of_ble_eq_true rfl) dX3_init_15 (fun q2 A2 H hK hP hD hS => ?_)
  have hP : va_P (dC, dI) vwCl [(h0, .inr (3, [.int 0, .int 0, .ref q1, .null, .null, .null, .null, .null, .null])), (q1, .inl (A1, 24, .inl (fun _ => 0))), (q2, .inl (A2, 24, .inl (fun _ => 0)))] H := hP
  have hD : va_D A [(h0, .inr (3, [.int 0, .int 0, .ref q1, .null, .null, .null, .null, .null, .null])), (q1, .inl (A1, 24, .inl (fun _ => 0))), (q2, .inl (A2, 24, .inl (fun _ => 0)))] := hD
  have hK : va_K (dC, dI) vwCl [(A1, .int), (A2, .int)] s := hK
  refine W.widen (k := 2) (n := 48) (by omega) (by omega) ?_
  refine va_putF (D := (dC, dI)) (ci := 3) (v := .ref q2) (C := RX3) (T := TX3) (N := 9) hx hb hts i3 tyX3 tyX3_ok nmX3 hown hK hP hD hS 0 rfl rfl 3 (by decide) f15 (fun _ h9 => h9) rfl hin rfl (tyX3_ok 3 (by decide)) rfl rfl (Nat.le_of_ble_eq_true rfl) dX3_init_17 (fun H locs hP hD hS => ?_)
  have hP : va_P (dC, dI) vwCl [(h0, .inr (3, [.int 0, .int 0, .ref q1, .ref q2, .null, .null, .null, .null, .null])), (q1, .inl (A1, 24, .inl (fun _ => 0))), (q2, .inl (A2, 24, .inl (fun _ => 0)))] H := hP
  have hD : va_D A [(h0, .inr (3, [.int 0, .int 0, .ref q1, .ref q2, .null, .null, .null, .null, .null])), (q1, .inl (A1, 24, .inl (fun _ => 0))), (q2, .inl (A2, 24, .inl (fun _ => 0)))] := hD
  refine lv_aload_n hx hb dX3_init_20 rfl (lv_at hl 0 rfl) ?_
  refine lv_bipush (v := 24) hx hb dX3_init_21 (by decide) ?_
  refine va_newa (atype := .int) (n := 24) (ty := .int) (N' := 24) (a0 := (24, .inl (fun _ => 0))) hx hb (hts (.arrayClass .int) (by decide +kernel)) rfl hK hP hD hS hA (fun _ => rfl) (by decide) (by decide) (by decide) (Nat.le_of_ble_eq_true rfl) (Nat.le_of_ble_eq_true rfl) dX3_init_23 (fun q3 A3 H hK hP hD hS => ?_)
  have hP : va_P (dC, dI) vwCl [(h0, .inr (3, [.int 0, .int 0, .ref q1, .ref q2, .null, .null, .null, .null, .null])), (q1, .inl (A1, 24, .inl (fun _ => 0))), (q2, .inl (A2, 24, .inl (fun _ => 0))), (q3, .inl (A3, 24, .inl (fun _ => 0)))] H := hP
  have hD : va_D A [(h0, .inr (3, [.int 0, .int 0, .ref q1, .ref q2, .null, .null, .null, .null, .null])), (q1, .inl (A1, 24, .inl (fun _ => 0))), (q2, .inl (A2, 24, .inl (fun _ => 0))), (q3, .inl (A3, 24, .inl (fun _ => 0)))] := hD
  have hK : va_K (dC, dI) vwCl [(A1, .int), (A2, .int), (A3, .int)] s := hK
  refine W.widen (k := 3) (n := 72) (by omega) (by omega) ?_
  refine va_putF (D := (dC, dI)) (ci := 3) (v := .ref q3) (C := RX3) (T := TX3) (N := 9) hx hb hts i3 tyX3 tyX3_ok nmX3 hown hK hP hD hS 0 rfl rfl 4 (by decide) f18 (fun _ h9 => h9) rfl hin rfl (tyX3_ok 4 (by decide)) rfl rfl (Nat.le_of_ble_eq_true rfl) dX3_init_25 (fun H locs hP hD hS => ?_)
  have hP : va_P (dC, dI) vwCl [(h0, .inr (3, [.int 0, .int 0, .ref q1, .ref q2, .ref q3, .null, .null, .null, .null])), (q1, .inl (A1, 24, .inl (fun _ => 0))), (q2, .inl (A2, 24, .inl (fun _ => 0))), (q3, .inl (A3, 24, .inl (fun _ => 0)))] H := hP
  have hD : va_D A [(h0, .inr (3, [.int 0, .int 0, .ref q1, .ref q2, .ref q3, .null, .null, .null, .null])), (q1, .inl (A1, 24, .inl (fun _ => 0))), (q2, .inl (A2, 24, .inl (fun _ => 0))), (q3, .inl (A3, 24, .inl (fun _ => 0)))] := hD
  refine lv_aload_n hx hb dX3_init_28 rfl (lv_at hl 0 rfl) ?_
  refine lv_sipush (v := 1536) hx hb dX3_init_29 (by decide) ?_
  refine va_newa (atype := .int) (n := 1536) (ty := .int) (N' := 1536) (a0 := (1536, .inl (fun _ => 0))) hx hb (hts (.arrayClass .int) (by decide +kernel)) rfl hK hP hD hS hA (fun _ => rfl) (by decide) (by decide) (by decide) (Nat.le_of_ble_eq_true rfl) (Nat.le_of_ble_eq_true rfl) dX3_init_32 (fun q4 A4 H hK hP hD hS => ?_)
  have hP : va_P (dC, dI) vwCl [(h0, .inr (3, [.int 0, .int 0, .ref q1, .ref q2, .ref q3, .null, .null, .null, .null])), (q1, .inl (A1, 24, .inl (fun _ => 0))), (q2, .inl (A2, 24, .inl (fun _ => 0))), (q3, .inl (A3, 24, .inl (fun _ => 0))), (q4, .inl (A4, 1536, .inl (fun _ => 0)))] H := hP
  have hD : va_D A [(h0, .inr (3, [.int 0, .int 0, .ref q1, .ref q2, .ref q3, .null, .null, .null, .null])), (q1, .inl (A1, 24, .inl (fun _ => 0))), (q2, .inl (A2, 24, .inl (fun _ => 0))), (q3, .inl (A3, 24, .inl (fun _ => 0))), (q4, .inl (A4, 1536, .inl (fun _ => 0)))] := hD
  have hK : va_K (dC, dI) vwCl [(A1, .int), (A2, .int), (A3, .int), (A4, .int)] s := hK
  refine W.widen (k := 4) (n := 1608) (by omega) (by omega) ?_
  refine va_putF (D := (dC, dI)) (ci := 3) (v := .ref q4) (C := RX3) (T := TX3) (N := 9) hx hb hts i3 tyX3 tyX3_ok nmX3 hown hK hP hD hS 0 rfl rfl 5 (by decide) f21 (fun _ h9 => h9) rfl hin rfl (tyX3_ok 5 (by decide)) rfl rfl (Nat.le_of_ble_eq_true rfl) dX3_init_34 (fun H locs hP hD hS => ?_)
  have hP : va_P (dC, dI) vwCl [(h0, .inr (3, [.int 0, .int 0, .ref q1, .ref q2, .ref q3, .ref q4, .null, .null, .null])), (q1, .inl (A1, 24, .inl (fun _ => 0))), (q2, .inl (A2, 24, .inl (fun _ => 0))), (q3, .inl (A3, 24, .inl (fun _ => 0))), (q4, .inl (A4, 1536, .inl (fun _ => 0)))] H := hP
  have hD : va_D A [(h0, .inr (3, [.int 0, .int 0, .ref q1, .ref q2, .ref q3, .ref q4, .null, .null, .null])), (q1, .inl (A1, 24, .inl (fun _ => 0))), (q2, .inl (A2, 24, .inl (fun _ => 0))), (q3, .inl (A3, 24, .inl (fun _ => 0))), (q4, .inl (A4, 1536, .inl (fun _ => 0)))] := hD
  refine lv_aload_n hx hb dX3_init_37 rfl (lv_at hl 0 rfl) ?_
  refine lv_sipush (v := 768) hx hb dX3_init_38 (by decide) ?_
  refine va_newa (atype := .int) (n := 768) (ty := .int) (N' := 768) (a0 := (768, .inl (fun _ => 0))) hx hb (hts (.arrayClass .int) (by decide +kernel)) rfl hK hP hD hS hA (fun _ => rfl) (by decide) (by decide) (by decide) (Nat.le_of_ble_eq_true rfl) (Nat.le_of_ble_eq_true rfl) dX3_init_41 (fun q5 A5 H hK hP hD hS => ?_)
  have hP : va_P (dC, dI) vwCl [(h0, .inr (3, [.int 0, .int 0, .ref q1, .ref q2, .ref q3, .ref q4, .null, .null, .null])), (q1, .inl (A1, 24, .inl (fun _ => 0))), (q2, .inl (A2, 24, .inl (fun _ => 0))), (q3, .inl (A3, 24, .inl (fun _ => 0))), (q4, .inl (A4, 1536, .inl (fun _ => 0))), (q5, .inl (A5, 768, .inl (fun _ => 0)))] H := hP
  have hD : va_D A [(h0, .inr (3, [.int 0, .int 0, .ref q1, .ref q2, .ref q3, .ref q4, .null, .null, .null])), (q1, .inl (A1, 24, .inl (fun _ => 0))), (q2, .inl (A2, 24, .inl (fun _ => 0))), (q3, .inl (A3, 24, .inl (fun _ => 0))), (q4, .inl (A4, 1536, .inl (fun _ => 0))), (q5, .inl (A5, 768, .inl (fun _ => 0)))] := hD
  have hK : va_K (dC, dI) vwCl [(A1, .int), (A2, .int), (A3, .int), (A4, .int), (A5, .int)] s := hK
  refine W.widen (k := 5) (n := 2376) (by omega) (by omega) ?_
  refine va_putF (D := (dC, dI)) (ci := 3) (v := .ref q5) (C := RX3) (T := TX3) (N := 9) hx hb hts i3 tyX3 tyX3_ok nmX3 hown hK hP hD hS 0 rfl rfl 6 (by decide) f24 (fun _ h9 => h9) rfl hin rfl (tyX3_ok 6 (by decide)) rfl rfl (Nat.le_of_ble_eq_true rfl) dX3_init_43 (fun H locs hP hD hS => ?_)
  have hP : va_P (dC, dI) vwCl [(h0, .inr (3, [.int 0, .int 0, .ref q1, .ref q2, .ref q3, .ref q4, .ref q5, .null, .null])), (q1, .inl (A1, 24, .inl (fun _ => 0))), (q2, .inl (A2, 24, .inl (fun _ => 0))), (q3, .inl (A3, 24, .inl (fun _ => 0))), (q4, .inl (A4, 1536, .inl (fun _ => 0))), (q5, .inl (A5, 768, .inl (fun _ => 0)))] H := hP
  have hD : va_D A [(h0, .inr (3, [.int 0, .int 0, .ref q1, .ref q2, .ref q3, .ref q4, .ref q5, .null, .null])), (q1, .inl (A1, 24, .inl (fun _ => 0))), (q2, .inl (A2, 24, .inl (fun _ => 0))), (q3, .inl (A3, 24, .inl (fun _ => 0))), (q4, .inl (A4, 1536, .inl (fun _ => 0))), (q5, .inl (A5, 768, .inl (fun _ => 0)))] := hD
  refine lv_aload_n hx hb dX3_init_46 rfl (lv_at hl 0 rfl) ?_
  refine lv_sipush (v := 768) hx hb dX3_init_47 (by decide) ?_
  refine va_newa (atype := .int) (n := 768) (ty := .int) (N' := 768) (a0 := (768, .inl (fun _ => 0))) hx hb (hts (.arrayClass .int) (by decide +kernel)) rfl hK hP hD hS hA (fun _ => rfl) (by decide) (by decide) (by decide) (Nat.le_of_ble_eq_true rfl) (Nat.le_of_ble_eq_true rfl) dX3_init_50 (fun q6 A6 H hK hP hD hS => ?_)
  have hP : va_P (dC, dI) vwCl [(h0, .inr (3, [.int 0, .int 0, .ref q1, .ref q2, .ref q3, .ref q4, .ref q5, .null, .null])), (q1, .inl (A1, 24, .inl (fun _ => 0))), (q2, .inl (A2, 24, .inl (fun _ => 0))), (q3, .inl (A3, 24, .inl (fun _ => 0))), (q4, .inl (A4, 1536, .inl (fun _ => 0))), (q5, .inl (A5, 768, .inl (fun _ => 0))), (q6, .inl (A6, 768, .inl (fun _ => 0)))] H := hP
  have hD : va_D A [(h0, .inr (3, [.int 0, .int 0, .ref q1, .ref q2, .ref q3, .ref q4, .ref q5, .null, .null])), (q1, .inl (A1, 24, .inl (fun _ => 0))), (q2, .inl (A2, 24, .inl (fun _ => 0))), (q3, .inl (A3, 24, .inl (fun _ => 0))), (q4, .inl (A4, 1536, .inl (fun _ => 0))), (q5, .inl (A5, 768, .inl (fun _ => 0))), (q6, .inl (A6, 768, .inl (fun _ => 0)))] := hD
  have hK : va_K (dC, dI) vwCl [(A1, .int), (A2, .int), (A3, .int), (A4, .int), (A5, .int), (A6, .int)] s := hK
  refine W.widen (k := 6) (n := 3144) (by omega) (by omega) ?_
  refine va_putF (D := (dC, dI)) (ci := 3) (v := .ref q6) (C := RX3) (T := TX3) (N := 9) hx hb hts i3 tyX3 tyX3_ok nmX3 hown hK hP hD hS 0 rfl rfl 7 (by decide) f27 (fun _ h9 => h9) rfl hin rfl (tyX3_ok 7 (by decide)) rfl rfl (Nat.le_of_ble_eq_true rfl) dX3_init_52 (fun H locs hP hD hS => ?_)
  have hP : va_P (dC, dI) vwCl [(h0, .inr (3, [.int 0, .int 0, .ref q1, .ref q2, .ref q3, .ref q4, .ref q5, .ref q6, .null])), (q1, .inl (A1, 24, .inl (fun _ => 0))), (q2, .inl (A2, 24, .inl (fun _ => 0))), (q3, .inl (A3, 24, .inl (fun _ => 0))), (q4, .inl (A4, 1536, .inl (fun _ => 0))), (q5, .inl (A5, 768, .inl (fun _ => 0))), (q6, .inl (A6, 768, .inl (fun _ => 0)))] H := hP
  have hD : va_D A [(h0, .inr (3, [.int 0, .int 0, .ref q1, .ref q2, .ref q3, .ref q4, .ref q5, .ref q6, .null])), (q1, .inl (A1, 24, .inl (fun _ => 0))), (q2, .inl (A2, 24, .inl (fun _ => 0))), (q3, .inl (A3, 24, .inl (fun _ => 0))), (q4, .inl (A4, 1536, .inl (fun _ => 0))), (q5, .inl (A5, 768, .inl (fun _ => 0))), (q6, .inl (A6, 768, .inl (fun _ => 0)))] := hD
  refine lv_aload_n hx hb dX3_init_55 rfl (lv_at hl 0 rfl) ?_
  refine lv_sipush (v := 768) hx hb dX3_init_56 (by decide) ?_
  refine va_newa (atype := .int) (n := 768) (ty := .int) (N' := 768) (a0 := (768, .inl (fun _ => 0))) hx hb (hts (.arrayClass .int) (by decide +kernel)) rfl hK hP hD hS hA (fun _ => rfl) (by decide) (by decide) (by decide) (Nat.le_of_ble_eq_true rfl) (Nat.le_of_ble_eq_true rfl) dX3_init_59 (fun q7 A7 H hK hP hD hS => ?_)
  have hP : va_P (dC, dI) vwCl [(h0, .inr (3, [.int 0, .int 0, .ref q1, .ref q2, .ref q3, .ref q4, .ref q5, .ref q6, .null])), (q1, .inl (A1, 24, .inl (fun _ => 0))), (q2, .inl (A2, 24, .inl (fun _ => 0))), (q3, .inl (A3, 24, .inl (fun _ => 0))), (q4, .inl (A4, 1536, .inl (fun _ => 0))), (q5, .inl (A5, 768, .inl (fun _ => 0))), (q6, .inl (A6, 768, .inl (fun _ => 0))), (q7, .inl (A7, 768, .inl (fun _ => 0)))] H := hP
  have hD : va_D A [(h0, .inr (3, [.int 0, .int 0, .ref q1, .ref q2, .ref q3, .ref q4, .ref q5, .ref q6, .null])), (q1, .inl (A1, 24, .inl (fun _ => 0))), (q2, .inl (A2, 24, .inl (fun _ => 0))), (q3, .inl (A3, 24, .inl (fun _ => 0))), (q4, .inl (A4, 1536, .inl (fun _ => 0))), (q5, .inl (A5, 768, .inl (fun _ => 0))), (q6, .inl (A6, 768, .inl (fun _ => 0))), (q7, .inl (A7, 768, .inl (fun _ => 0)))] := hD
  have hK : va_K (dC, dI) vwCl [(A1, .int), (A2, .int), (A3, .int), (A4, .int), (A5, .int), (A6, .int), (A7, .int)] s := hK
  refine W.widen (k := 7) (n := 3912) (by omega) (by omega) ?_
  refine va_putF (D := (dC, dI)) (ci := 3) (v := .ref q7) (C := RX3) (T := TX3) (N := 9) hx hb hts i3 tyX3 tyX3_ok nmX3 hown hK hP hD hS 0 rfl rfl 8 (by decide) f30 (fun _ h9 => h9) rfl hin rfl (tyX3_ok 8 (by decide)) rfl rfl (Nat.le_of_ble_eq_true rfl) dX3_init_61 (fun H locs hP hD hS => ?_)
  have hP : va_P (dC, dI) vwCl [(h0, .inr (3, [.int 0, .int 0, .ref q1, .ref q2, .ref q3, .ref q4, .ref q5, .ref q6, .ref q7])), (q1, .inl (A1, 24, .inl (fun _ => 0))), (q2, .inl (A2, 24, .inl (fun _ => 0))), (q3, .inl (A3, 24, .inl (fun _ => 0))), (q4, .inl (A4, 1536, .inl (fun _ => 0))), (q5, .inl (A5, 768, .inl (fun _ => 0))), (q6, .inl (A6, 768, .inl (fun _ => 0))), (q7, .inl (A7, 768, .inl (fun _ => 0)))] H := hP
  have hD : va_D A [(h0, .inr (3, [.int 0, .int 0, .ref q1, .ref q2, .ref q3, .ref q4, .ref q5, .ref q6, .ref q7])), (q1, .inl (A1, 24, .inl (fun _ => 0))), (q2, .inl (A2, 24, .inl (fun _ => 0))), (q3, .inl (A3, 24, .inl (fun _ => 0))), (q4, .inl (A4, 1536, .inl (fun _ => 0))), (q5, .inl (A5, 768, .inl (fun _ => 0))), (q6, .inl (A6, 768, .inl (fun _ => 0))), (q7, .inl (A7, 768, .inl (fun _ => 0)))] := hD
  refine lv_aload_n hx hb dX3_init_64 rfl (lv_at hl 0 rfl) ?_
  refine lv_bipush (v := 8) hx hb dX3_init_65 (by decide) ?_
  refine va_put (D := (dC, dI)) (ci := 3) (v := .int 8) (C := RX3) (T := TX3) (N := 9) hx hb hts i3 tyX3 tyX3_ok nmX3 hown hK hP hD hS 0 rfl rfl 0 (by decide) f33 (fun _ h9 => h9) rfl (tyX3_ok 0 (by decide)) rfl rfl (Nat.le_of_ble_eq_true rfl) dX3_init_67 (fun H locs hP hD hS => ?_)
  have hP : va_P (dC, dI) vwCl [(h0, .inr (3, [.int 8, .int 0, .ref q1, .ref q2, .ref q3, .ref q4, .ref q5, .ref q6, .ref q7])), (q1, .inl (A1, 24, .inl (fun _ => 0))), (q2, .inl (A2, 24, .inl (fun _ => 0))), (q3, .inl (A3, 24, .inl (fun _ => 0))), (q4, .inl (A4, 1536, .inl (fun _ => 0))), (q5, .inl (A5, 768, .inl (fun _ => 0))), (q6, .inl (A6, 768, .inl (fun _ => 0))), (q7, .inl (A7, 768, .inl (fun _ => 0)))] H := hP
  have hD : va_D A [(h0, .inr (3, [.int 8, .int 0, .ref q1, .ref q2, .ref q3, .ref q4, .ref q5, .ref q6, .ref q7])), (q1, .inl (A1, 24, .inl (fun _ => 0))), (q2, .inl (A2, 24, .inl (fun _ => 0))), (q3, .inl (A3, 24, .inl (fun _ => 0))), (q4, .inl (A4, 1536, .inl (fun _ => 0))), (q5, .inl (A5, 768, .inl (fun _ => 0))), (q6, .inl (A6, 768, .inl (fun _ => 0))), (q7, .inl (A7, 768, .inl (fun _ => 0)))] := hD
  refine lv_aload_n hx hb dX3_init_70 rfl (lv_at hl 0 rfl) ?_
  refine lv_sipush (v := 512) hx hb dX3_init_71 (by decide) ?_
  refine va_put (D := (dC, dI)) (ci := 3) (v := .int 512) (C := RX3) (T := TX3) (N := 9) hx hb hts i3 tyX3 tyX3_ok nmX3 hown hK hP hD hS 0 rfl rfl 1 (by decide) f37 (fun _ h9 => h9) rfl (tyX3_ok 1 (by decide)) rfl rfl (Nat.le_of_ble_eq_true rfl) dX3_init_74 (fun H locs hP hD hS => ?_)
  have hP : va_P (dC, dI) vwCl [(h0, .inr (3, [.int 8, .int 512, .ref q1, .ref q2, .ref q3, .ref q4, .ref q5, .ref q6, .ref q7])), (q1, .inl (A1, 24, .inl (fun _ => 0))), (q2, .inl (A2, 24, .inl (fun _ => 0))), (q3, .inl (A3, 24, .inl (fun _ => 0))), (q4, .inl (A4, 1536, .inl (fun _ => 0))), (q5, .inl (A5, 768, .inl (fun _ => 0))), (q6, .inl (A6, 768, .inl (fun _ => 0))), (q7, .inl (A7, 768, .inl (fun _ => 0)))] H := hP
  have hD : va_D A [(h0, .inr (3, [.int 8, .int 512, .ref q1, .ref q2, .ref q3, .ref q4, .ref q5, .ref q6, .ref q7])), (q1, .inl (A1, 24, .inl (fun _ => 0))), (q2, .inl (A2, 24, .inl (fun _ => 0))), (q3, .inl (A3, 24, .inl (fun _ => 0))), (q4, .inl (A4, 1536, .inl (fun _ => 0))), (q5, .inl (A5, 768, .inl (fun _ => 0))), (q6, .inl (A6, 768, .inl (fun _ => 0))), (q7, .inl (A7, 768, .inl (fun _ => 0)))] := hD
  exact W.vret hx hb hr (fun t ht hW => ⟨⟨(), rfl, trivial, q1, A1, q2, A2, q3, A3, q4, A4, q5, A5, q6, A6, q7, A7, by rw [ht]; exact hP, va_K.moved hW.alike hK, hD⟩, hS.F ht⟩) hS.2.2 dX3_init_77
def at_X2_init (dC : Nat → ClassId) (dI : Nat → Nat → Nat) (A : Nat → Prop) (h0 : Nat) (t : State) : Prop := ∃ (q1 : Nat) (A1 : ClassId) (q2 : Nat) (A2 : ClassId), va_P (dC, dI) vwCl [(h0, .inr (2, [.int 0, .ref q1, .int 0, .int 0, .ref q2])), (q1, .inl (A1, 12, .inl (fun _ => 0))), (q2, .inl (A2, 24, .inl (fun _ => 0)))] t.heap ∧ va_K (dC, dI) vwCl [(A1, .int), (A2, .int)] t ∧ va_D A [(h0, .inr (2, [.int 0, .ref q1, .int 0, .int 0, .ref q2])), (q1, .inl (A1, 12, .inl (fun _ => 0))), (q2, .inl (A2, 24, .inl (fun _ => 0)))]
set_option maxHeartbeats 4000000 in
set_option maxRecDepth 100000 in
theorem iX2_init (l : Launch) (dC : Nat → ClassId) (dI : Nat → Nat → Nat) (h0 : Nat) (sz : Nat) : Met l yX2_init wsX2_init ({ frames := 1, cells := 2, slots := 36, locals := 12 }) (va_Pc [.ref h0] (fun U => U.heap.size = sz ∧ va_P (dC, dI) vwCl [(h0, .inr (2, [.int 0, .null, .int 0, .int 0, .null]))] U.heap ∧ va_K (dC, dI) vwCl [] U ∧ va_D (fun _ => True) [(h0, .inr (2, [.int 0, .null, .int 0, .int 0, .null]))])) (va_Qv (fun _ : Unit => True) (fun _ t => at_X2_init dC dI (va_A [(h0, .inr (2, [.int 0, .null, .int 0, .int 0, .null]))] sz) h0 t) (va_A [(h0, .inr (2, [.int 0, .null, .int 0, .int 0, .null]))] sz)) 2 36 (va_A [(h0, .inr (2, [.int 0, .null, .int 0, .int 0, .null]))] sz) := by
  refine Met.ofW (cc := cX2_init) (maxL := 1) (ret := none) (by decide) rfl ?_
  intro p e s m args below meth cd s₁ B hml hv
  obtain ⟨rfl, rfl, hP, hK, hD0⟩ := hv
  have hx := B.exec
  have hb := B.bytes
  have hr := B.returns
  have hts := atoms_spec (ws := wsX2_init) B.pre
  have hown : s.vm.findClass RX2 = some m.cls := findClass_of_methodNamed B.named
  have hlocks := B.notSynchronized
  have hin : meth.name = "<init>" := (name_of_methodNamed B.named B.method).1
  have hD := hD0.self (sz := s.heap.size)
  generalize hAe : va_A [(h0, .inr (2, [.int 0, .null, .int 0, .int 0, .null]))] s.heap.size = A at hD ⊢
  have hA : ∀ q : Nat, s.heap.size ≤ q → A q := fun q h => by rw [← hAe]; exact Or.inr h
  have hS : va_S A s.heap s.heap [] := va_S.rf
  have i2 : ∀ w ∈ u_ws RX2 TX2 5, w ∈ wsX2_init := by decide +kernel
  have f9 := hts (.fieldLink RX2 9 "StickyHeap$Memory" "way" "I") (by decide +kernel)
  have f15 := hts (.fieldLink RX2 15 "StickyHeap$Memory" "log" "[I") (by decide +kernel)
  have f19 := hts (.fieldLink RX2 19 "StickyHeap$Memory" "dirty" "[I") (by decide +kernel)
  have hl := lv_entry [.ref h0] (n := 1) (Nat.le_of_ble_eq_true rfl)
  rw [lg_entry_eq]
  generalize (lg_sl [.ref h0] ++ List.replicate (1 - (lg_sl [.ref h0]).length) Slot.unset).toArray = ls at hl ⊢
  have hl : lv_has ls 1 [(0, .ref h0)] := hl
  have hP : va_P (dC, dI) vwCl [(h0, .inr (2, [.int 0, .null, .int 0, .int 0, .null]))] s.heap := hP
  refine lv_aload_n hx hb dX2_init_0 rfl (lv_at hl 0 rfl) ?_
  refine W.objInit hx hb hown (hts (.methodLink RX2 3 objectInit) (by decide +kernel)) (hts (.instanceMethod objectInit) (by decide +kernel)) (hts (.code objectInit ⟨#[0xb1]⟩ 1 none) (List.mem_of_getElem? (i := 3) rfl)) rfl (by rw [hml]; exact hl.1) rfl dX2_init_1 (Nat.le_of_ble_eq_true rfl) (Nat.le_of_ble_eq_true rfl) ?_
  refine W.eq (g2 := F0 m 4 ls []) rfl ?_
  refine lv_aload_n hx hb dX2_init_4 rfl (lv_at hl 0 rfl) ?_
  refine lv_iconst (v := 0) hx hb dX2_init_5 (by decide) ?_
  refine va_put (D := (dC, dI)) (ci := 2) (v := .int 0) (C := RX2) (T := TX2) (N := 5) hx hb hts i2 tyX2 tyX2_ok nmX2 hown hK hP hD hS 0 rfl rfl 0 (by decide) f9 (fun _ h9 => h9) rfl (tyX2_ok 0 (by decide)) rfl rfl (Nat.le_of_ble_eq_true rfl) dX2_init_6 (fun H locs hP hD hS => ?_)
  have hP : va_P (dC, dI) vwCl [(h0, .inr (2, [.int 0, .null, .int 0, .int 0, .null]))] H := hP
  have hD : va_D A [(h0, .inr (2, [.int 0, .null, .int 0, .int 0, .null]))] := hD
  refine lv_aload_n hx hb dX2_init_9 rfl (lv_at hl 0 rfl) ?_
  refine lv_bipush (v := 12) hx hb dX2_init_10 (by decide) ?_
  refine va_newa (atype := .int) (n := 12) (ty := .int) (N' := 12) (a0 := (12, .inl (fun _ => 0))) hx hb (hts (.arrayClass .int) (by decide +kernel)) rfl hK hP hD hS hA (fun _ => rfl) (by decide) (by decide) (by decide) (Nat.le_of_ble_eq_true rfl) (Nat.le_of_ble_eq_true rfl) dX2_init_12 (fun q1 A1 H hK hP hD hS => ?_)
  have hP : va_P (dC, dI) vwCl [(h0, .inr (2, [.int 0, .null, .int 0, .int 0, .null])), (q1, .inl (A1, 12, .inl (fun _ => 0)))] H := hP
  have hD : va_D A [(h0, .inr (2, [.int 0, .null, .int 0, .int 0, .null])), (q1, .inl (A1, 12, .inl (fun _ => 0)))] := hD
  have hK : va_K (dC, dI) vwCl [(A1, .int)] s := hK
  refine W.widen (k := 1) (n := 12) (by omega) (by omega) ?_
  refine va_putF (D := (dC, dI)) (ci := 2) (v := .ref q1) (C := RX2) (T := TX2) (N := 5) hx hb hts i2 tyX2 tyX2_ok nmX2 hown hK hP hD hS 0 rfl rfl 1 (by decide) f15 (fun _ h9 => h9) rfl hin rfl (tyX2_ok 1 (by decide)) rfl rfl (Nat.le_of_ble_eq_true rfl) dX2_init_14 (fun H locs hP hD hS => ?_)
  have hP : va_P (dC, dI) vwCl [(h0, .inr (2, [.int 0, .ref q1, .int 0, .int 0, .null])), (q1, .inl (A1, 12, .inl (fun _ => 0)))] H := hP
  have hD : va_D A [(h0, .inr (2, [.int 0, .ref q1, .int 0, .int 0, .null])), (q1, .inl (A1, 12, .inl (fun _ => 0)))] := hD
  refine lv_aload_n hx hb dX2_init_17 rfl (lv_at hl 0 rfl) ?_
  refine lv_bipush (v := 24) hx hb dX2_init_18 (by decide) ?_
  refine va_newa (atype := .int) (n := 24) (ty := .int) (N' := 24) (a0 := (24, .inl (fun _ => 0))) hx hb (hts (.arrayClass .int) (by decide +kernel)) rfl hK hP hD hS hA (fun _ => rfl) (by decide) (by decide) (by decide) (Nat.le_of_ble_eq_true rfl) (Nat.le_of_ble_eq_true rfl) dX2_init_20 (fun q2 A2 H hK hP hD hS => ?_)
  have hP : va_P (dC, dI) vwCl [(h0, .inr (2, [.int 0, .ref q1, .int 0, .int 0, .null])), (q1, .inl (A1, 12, .inl (fun _ => 0))), (q2, .inl (A2, 24, .inl (fun _ => 0)))] H := hP
  have hD : va_D A [(h0, .inr (2, [.int 0, .ref q1, .int 0, .int 0, .null])), (q1, .inl (A1, 12, .inl (fun _ => 0))), (q2, .inl (A2, 24, .inl (fun _ => 0)))] := hD
  have hK : va_K (dC, dI) vwCl [(A1, .int), (A2, .int)] s := hK
  refine W.widen (k := 2) (n := 36) (by omega) (by omega) ?_
  refine va_putF (D := (dC, dI)) (ci := 2) (v := .ref q2) (C := RX2) (T := TX2) (N := 5) hx hb hts i2 tyX2 tyX2_ok nmX2 hown hK hP hD hS 0 rfl rfl 4 (by decide) f19 (fun _ h9 => h9) rfl hin rfl (tyX2_ok 4 (by decide)) rfl rfl (Nat.le_of_ble_eq_true rfl) dX2_init_22 (fun H locs hP hD hS => ?_)
  have hP : va_P (dC, dI) vwCl [(h0, .inr (2, [.int 0, .ref q1, .int 0, .int 0, .ref q2])), (q1, .inl (A1, 12, .inl (fun _ => 0))), (q2, .inl (A2, 24, .inl (fun _ => 0)))] H := hP
  have hD : va_D A [(h0, .inr (2, [.int 0, .ref q1, .int 0, .int 0, .ref q2])), (q1, .inl (A1, 12, .inl (fun _ => 0))), (q2, .inl (A2, 24, .inl (fun _ => 0)))] := hD
  exact W.vret hx hb hr (fun t ht hW => ⟨⟨(), rfl, trivial, q1, A1, q2, A2, by rw [ht]; exact hP, va_K.moved hW.alike hK, hD⟩, hS.F ht⟩) hS.2.2 dX2_init_25
def at_X0_init (dC : Nat → ClassId) (dI : Nat → Nat → Nat) (A : Nat → Prop) (h0 : Nat) (g1 : Nat) (g2 : Nat) (g3 : Nat) (t : State) : Prop := ∃ (q1 : Nat) (A1 : ClassId), va_P (dC, dI) vwCl [(h0, .inr (0, [.ref g1, .ref g2, .ref g3, .ref q1, .int 0, .int 0, .int 0, .int 0, .int 0])), (q1, .inl (A1, 768, .inl (fun _ => 0)))] t.heap ∧ va_K (dC, dI) vwCl [(A1, .int)] t ∧ va_D A [(h0, .inr (0, [.ref g1, .ref g2, .ref g3, .ref q1, .int 0, .int 0, .int 0, .int 0, .int 0])), (q1, .inl (A1, 768, .inl (fun _ => 0)))]
set_option maxHeartbeats 4000000 in
set_option maxRecDepth 100000 in
theorem iX0_init (l : Launch) (dC : Nat → ClassId) (dI : Nat → Nat → Nat) (h0 : Nat) (g1 : Nat) (g2 : Nat) (g3 : Nat) (sz : Nat) : Met l yX0_init wsX0_init ({ frames := 1, cells := 1, slots := 768, locals := 12 }) (va_Pc [.ref h0, .ref g1, .ref g2, .ref g3] (fun U => U.heap.size = sz ∧ va_P (dC, dI) vwCl [(h0, .inr (0, [.null, .null, .null, .null, .int 0, .int 0, .int 0, .int 0, .int 0]))] U.heap ∧ va_K (dC, dI) vwCl [] U ∧ va_D (fun _ => True) [(h0, .inr (0, [.null, .null, .null, .null, .int 0, .int 0, .int 0, .int 0, .int 0]))])) (va_Qv (fun _ : Unit => True) (fun _ t => at_X0_init dC dI (va_A [(h0, .inr (0, [.null, .null, .null, .null, .int 0, .int 0, .int 0, .int 0, .int 0]))] sz) h0 g1 g2 g3 t) (va_A [(h0, .inr (0, [.null, .null, .null, .null, .int 0, .int 0, .int 0, .int 0, .int 0]))] sz)) 1 768 (va_A [(h0, .inr (0, [.null, .null, .null, .null, .int 0, .int 0, .int 0, .int 0, .int 0]))] sz) := by
  refine Met.ofW (cc := cX0_init) (maxL := 4) (ret := none) (by decide) rfl ?_
  intro p e s m args below meth cd s₁ B hml hv
  obtain ⟨rfl, rfl, hP, hK, hD0⟩ := hv
  have hx := B.exec
  have hb := B.bytes
  have hr := B.returns
  have hts := atoms_spec (ws := wsX0_init) B.pre
  have hown : s.vm.findClass RX0 = some m.cls := findClass_of_methodNamed B.named
  have hlocks := B.notSynchronized
  have hin : meth.name = "<init>" := (name_of_methodNamed B.named B.method).1
  have hD := hD0.self (sz := s.heap.size)
  generalize hAe : va_A [(h0, .inr (0, [.null, .null, .null, .null, .int 0, .int 0, .int 0, .int 0, .int 0]))] s.heap.size = A at hD ⊢
  have hA : ∀ q : Nat, s.heap.size ≤ q → A q := fun q h => by rw [← hAe]; exact Or.inr h
  have hS : va_S A s.heap s.heap [] := va_S.rf
  have i0 : ∀ w ∈ u_ws RX0 TX0 9, w ∈ wsX0_init := by decide +kernel
  have f9 := hts (.fieldLink RX0 9 "StickyHeap$Collector" "found" "[I") (by decide +kernel)
  have f15 := hts (.fieldLink RX0 15 "StickyHeap$Collector" "space" "LStickyHeap$Space;") (by decide +kernel)
  have f19 := hts (.fieldLink RX0 19 "StickyHeap$Collector" "memory" "LStickyHeap$Memory;") (by decide +kernel)
  have f23 := hts (.fieldLink RX0 23 "StickyHeap$Collector" "holders" "LStickyHeap$Holders;") (by decide +kernel)
  have hl := lv_entry [.ref h0, .ref g1, .ref g2, .ref g3] (n := 4) (Nat.le_of_ble_eq_true rfl)
  rw [lg_entry_eq]
  generalize (lg_sl [.ref h0, .ref g1, .ref g2, .ref g3] ++ List.replicate (4 - (lg_sl [.ref h0, .ref g1, .ref g2, .ref g3]).length) Slot.unset).toArray = ls at hl ⊢
  have hl : lv_has ls 4 [(0, .ref h0), (1, .ref g1), (2, .ref g2), (3, .ref g3)] := hl
  have hP : va_P (dC, dI) vwCl [(h0, .inr (0, [.null, .null, .null, .null, .int 0, .int 0, .int 0, .int 0, .int 0]))] s.heap := hP
  refine lv_aload_n hx hb dX0_init_0 rfl (lv_at hl 0 rfl) ?_
  refine W.objInit hx hb hown (hts (.methodLink RX0 3 objectInit) (by decide +kernel)) (hts (.instanceMethod objectInit) (by decide +kernel)) (hts (.code objectInit ⟨#[0xb1]⟩ 1 none) (List.mem_of_getElem? (i := 3) rfl)) rfl (by rw [hml]; exact hl.1) rfl dX0_init_1 (Nat.le_of_ble_eq_true rfl) (Nat.le_of_ble_eq_true rfl) ?_
  refine W.eq (g2 := F0 m 4 ls []) rfl ?_
  refine lv_aload_n hx hb dX0_init_4 rfl (lv_at hl 0 rfl) ?_
  refine lv_sipush (v := 768) hx hb dX0_init_5 (by decide) ?_
  refine va_newa (atype := .int) (n := 768) (ty := .int) (N' := 768) (a0 := (768, .inl (fun _ => 0))) hx hb (hts (.arrayClass .int) (by decide +kernel)) rfl hK hP hD hS hA (fun _ => rfl) (by decide) (by decide) (by decide) (Nat.le_of_ble_eq_true rfl) (Nat.le_of_ble_eq_true rfl) dX0_init_8 (fun q1 A1 H hK hP hD hS => ?_)
  have hP : va_P (dC, dI) vwCl [(h0, .inr (0, [.null, .null, .null, .null, .int 0, .int 0, .int 0, .int 0, .int 0])), (q1, .inl (A1, 768, .inl (fun _ => 0)))] H := hP
  have hD : va_D A [(h0, .inr (0, [.null, .null, .null, .null, .int 0, .int 0, .int 0, .int 0, .int 0])), (q1, .inl (A1, 768, .inl (fun _ => 0)))] := hD
  have hK : va_K (dC, dI) vwCl [(A1, .int)] s := hK
  refine W.widen (k := 1) (n := 768) (by omega) (by omega) ?_
  refine va_putF (D := (dC, dI)) (ci := 0) (v := .ref q1) (C := RX0) (T := TX0) (N := 9) hx hb hts i0 tyX0 tyX0_ok nmX0 hown hK hP hD hS 0 rfl rfl 3 (by decide) f9 (fun _ h9 => h9) rfl hin rfl (tyX0_ok 3 (by decide)) rfl rfl (Nat.le_of_ble_eq_true rfl) dX0_init_10 (fun H locs hP hD hS => ?_)
  have hP : va_P (dC, dI) vwCl [(h0, .inr (0, [.null, .null, .null, .ref q1, .int 0, .int 0, .int 0, .int 0, .int 0])), (q1, .inl (A1, 768, .inl (fun _ => 0)))] H := hP
  have hD : va_D A [(h0, .inr (0, [.null, .null, .null, .ref q1, .int 0, .int 0, .int 0, .int 0, .int 0])), (q1, .inl (A1, 768, .inl (fun _ => 0)))] := hD
  refine lv_aload_n hx hb dX0_init_13 rfl (lv_at hl 0 rfl) ?_
  refine lv_aload_n hx hb dX0_init_14 rfl (lv_at hl 1 rfl) ?_
  refine va_putF (D := (dC, dI)) (ci := 0) (v := .ref g1) (C := RX0) (T := TX0) (N := 9) hx hb hts i0 tyX0 tyX0_ok nmX0 hown hK hP hD hS 0 rfl rfl 0 (by decide) f15 (fun _ h9 => h9) rfl hin rfl (tyX0_ok 0 (by decide)) rfl rfl (Nat.le_of_ble_eq_true rfl) dX0_init_15 (fun H locs hP hD hS => ?_)
  have hP : va_P (dC, dI) vwCl [(h0, .inr (0, [.ref g1, .null, .null, .ref q1, .int 0, .int 0, .int 0, .int 0, .int 0])), (q1, .inl (A1, 768, .inl (fun _ => 0)))] H := hP
  have hD : va_D A [(h0, .inr (0, [.ref g1, .null, .null, .ref q1, .int 0, .int 0, .int 0, .int 0, .int 0])), (q1, .inl (A1, 768, .inl (fun _ => 0)))] := hD
  refine lv_aload_n hx hb dX0_init_18 rfl (lv_at hl 0 rfl) ?_
  refine lv_aload_n hx hb dX0_init_19 rfl (lv_at hl 2 rfl) ?_
  refine va_putF (D := (dC, dI)) (ci := 0) (v := .ref g2) (C := RX0) (T := TX0) (N := 9) hx hb hts i0 tyX0 tyX0_ok nmX0 hown hK hP hD hS 0 rfl rfl 1 (by decide) f19 (fun _ h9 => h9) rfl hin rfl (tyX0_ok 1 (by decide)) rfl rfl (Nat.le_of_ble_eq_true rfl) dX0_init_20 (fun H locs hP hD hS => ?_)
  have hP : va_P (dC, dI) vwCl [(h0, .inr (0, [.ref g1, .ref g2, .null, .ref q1, .int 0, .int 0, .int 0, .int 0, .int 0])), (q1, .inl (A1, 768, .inl (fun _ => 0)))] H := hP
  have hD : va_D A [(h0, .inr (0, [.ref g1, .ref g2, .null, .ref q1, .int 0, .int 0, .int 0, .int 0, .int 0])), (q1, .inl (A1, 768, .inl (fun _ => 0)))] := hD
  refine lv_aload_n hx hb dX0_init_23 rfl (lv_at hl 0 rfl) ?_
  refine lv_aload_n hx hb dX0_init_24 rfl (lv_at hl 3 rfl) ?_
  refine va_putF (D := (dC, dI)) (ci := 0) (v := .ref g3) (C := RX0) (T := TX0) (N := 9) hx hb hts i0 tyX0 tyX0_ok nmX0 hown hK hP hD hS 0 rfl rfl 2 (by decide) f23 (fun _ h9 => h9) rfl hin rfl (tyX0_ok 2 (by decide)) rfl rfl (Nat.le_of_ble_eq_true rfl) dX0_init_25 (fun H locs hP hD hS => ?_)
  have hP : va_P (dC, dI) vwCl [(h0, .inr (0, [.ref g1, .ref g2, .ref g3, .ref q1, .int 0, .int 0, .int 0, .int 0, .int 0])), (q1, .inl (A1, 768, .inl (fun _ => 0)))] H := hP
  have hD : va_D A [(h0, .inr (0, [.ref g1, .ref g2, .ref g3, .ref q1, .int 0, .int 0, .int 0, .int 0, .int 0])), (q1, .inl (A1, 768, .inl (fun _ => 0)))] := hD
  exact W.vret hx hb hr (fun t ht hW => ⟨⟨(), rfl, trivial, q1, A1, by rw [ht]; exact hP, va_K.moved hW.alike hK, hD⟩, hS.F ht⟩) hS.2.2 dX0_init_28

def adl : List Nat → Nat → Nat
  | [], _ => 0
  | a :: _, 0 => a
  | _ :: l, n + 1 => adl l n
theorem apart_of {A : Nat → Prop} {ws : va_W} {N : Nat} {ad : Nat → Nat} (h : va_D A ws) (hw : ws.map (fun q => q.1) = (List.range N).map ad) : apart N ad := by
  have key : ∀ i, i < N → ∃ q, ws[i]? = some q ∧ q.1 = ad i := by
    intro i hi
    have h1 : (ws.map (fun q => q.1))[i]? = some (ad i) := by rw [hw, List.getElem?_map, List.getElem?_range hi]; rfl
    rw [List.getElem?_map] at h1
    cases hq : ws[i]? with
    | none => rw [hq] at h1; cases h1
    | some q => rw [hq] at h1; exact ⟨q, rfl, Option.some.inj h1⟩
  intro i j hi hj e
  obtain ⟨p, p1, p2⟩ := key i hi
  obtain ⟨q, q1, q2⟩ := key j hj
  exact h.1 i j p q p1 q1 (by rw [p2, q2]; exact e)
theorem dE {A : Nat → Prop} {ws ws' : va_W} (h : va_D A ws) (hw : ws.map (fun q => q.1) = ws'.map (fun q => q.1)) : va_D A ws' := by
  have key : ∀ (i : Nat) (q : Nat × va_E), ws'[i]? = some q → ∃ p, ws[i]? = some p ∧ p.1 = q.1 := by
    intro i q hq
    have h1 : (ws.map (fun q => q.1))[i]? = some q.1 := by rw [hw, List.getElem?_map, hq]; rfl
    rw [List.getElem?_map] at h1
    cases hp : ws[i]? with
    | none => rw [hp] at h1; cases h1
    | some p => rw [hp] at h1; exact ⟨p, rfl, Option.some.inj h1⟩
  refine ⟨fun i j p q hi hj e => ?_, fun k q hk => ?_⟩
  · obtain ⟨p', p1, p2⟩ := key i p hi
    obtain ⟨q', q1, q2⟩ := key j q hj
    exact h.1 i j p' q' p1 q1 (by rw [p2, q2]; exact e)
  · obtain ⟨p', p1, p2⟩ := key k q hk
    rw [← p2]
    exact h.2 k p' p1
theorem fA_in {A : Nat → Prop} {ws : va_W} {N : Nat} {ad : Nat → Nat} {H0 H : Heap} {locs : List Loc} (h : va_D A ws) (hS : va_S A H0 H locs) (hA : ∀ q, H0.size ≤ q → A q) (hw : ws.map (fun q => q.1) = (List.range N).map ad) : ∀ q, fA N ad H.size q → A q := by
  intro q hq
  rcases hq with ⟨k, hk, rfl⟩ | hq
  · have h1 : (ws.map (fun q => q.1))[k]? = some (ad k) := by rw [hw, List.getElem?_map, List.getElem?_range hk]; rfl
    rw [List.getElem?_map] at h1
    cases hp : ws[k]? with
    | none => rw [hp] at h1; cases h1
    | some p =>
      rw [hp] at h1
      have h2 := h.2 k p hp
      have h3 : p.1 = ad k := Option.some.inj h1
      rw [h3] at h2
      exact h2
  · exact hA q (Nat.le_trans hS.1 hq)
def zH : HS := (fun _ _ => 0, 0)
def bgnC : HS := hs (hfill (hs (hs (hs zH 0 0 8) 0 1 512) 0 11 1) 10 10 (-1)) 0 5 0
def bgnM : HS := hfill (hs (hs zH 0 0 8) 0 4 1) 11 10 (-1)
abbrev wH (ad : Nat → Nat) (cA : Nat → ClassId) (c : HS) : va_W := [(ad 0, .inr (1, [.ref (ad 1), .ref (ad 2), .int (c.1 0 5)])), (ad 1, .inl (cA 0, 10, .inl (c.1 10))), (ad 2, .inl (cA 1, 24, .inl (c.1 11)))]
abbrev tH (cA : Nat → ClassId) : List (ClassId × FieldType) := [(cA 0, .int), (cA 1, .int)]
def kH (D : va_G) (cA : Nat → ClassId) (U : State) : Prop := va_K D vwCl (tH cA) U
theorem kH_st (D : va_G) (cA : Nat → ClassId) : stays (kH D cA) := ⟨fun U g mk a h => va_K.moved (u := U) (U := U.calling g mk a) (Vm.Alike.refl U.vm) h, fun s U hW h => va_K.moved hW.alike h⟩
set_option maxHeartbeats 4000000 in
set_option maxRecDepth 100000 in
theorem kH_reset (l : Launch) (dC : Nat → ClassId) (dI : Nat → Nat → Nat) (ad : Nat → Nat) (cA : Nat → ClassId) (hap : apart 3 ad) (sz : Nat) (c : HS) (c9 : HS) (hM : pX1_reset c = some c9) : Met l yX1_reset wsX1_reset ({ frames := 0, cells := 0, slots := 0, locals := 0 }) (gP (dC, dI) (wH ad cA) (kH (dC, dI) cA) c sz [.ref (ad 0)]) (gQv (dC, dI) (wH ad cA) (fA 3 ad sz) c9) 0 0 (fA 3 ad sz) := by
  refine Met.ofW (cc := cX1_reset) (maxL := 2) (ret := none) (by decide) rfl ?_
  intro p e s m args below meth cd s₁ B hml hv
  obtain ⟨rfl, rfl, hP, hK⟩ := hv
  have hx := B.exec
  have hb := B.bytes
  have hr := B.returns
  have hts := atoms_spec (ws := wsX1_reset) B.pre
  have hown : s.vm.findClass RX1 = some m.cls := findClass_of_methodNamed B.named
  have hlocks := B.notSynchronized
  have hK1 : va_K (dC, dI) vwCl (tH cA) s := hK
  have hD : ∀ c, va_D (fA 3 ad s.heap.size) (wH ad cA c) := fun c => dW hap rfl _
  have hS : va_S (fA 3 ad s.heap.size) s.heap s.heap [] := va_S.rf
  have i1 : ∀ w ∈ u_ws RX1 TX1 3, w ∈ wsX1_reset := by decide +kernel
  have f9 := hts (.fieldLink RX1 9 "StickyHeap$Holders" "roots" "[I") (by decide +kernel)
  have f21 := hts (.fieldLink RX1 21 "StickyHeap$Holders" "height" "I") (by decide +kernel)
  have L2 : ∀ (n : Nat) (c : HS) (v1 : Int32) (H : Heap) (locs : List Loc) (ls : Array Slot), pX1_reset_2 n c v1 = some c9 → va_P (dC, dI) vwCl (wH ad cA c) H → va_S (fA 3 ad s.heap.size) s.heap H locs → lv_has ls 2 [(0, .ref (ad 0)), (1, .int v1)] → W p l e (headSpec wsX1_reset ({ frames := 0, cells := 0, slots := 0, locals := 0 })).room s m ([.ref (ad 0)]).toArray below meth cd H locs 0 0 (MQ below (gQv (dC, dI) (wH ad cA) (fA 3 ad s.heap.size) c9) ([.ref (ad 0)]).toArray s 0 0 (fA 3 ad s.heap.size)) (F0 m 2 ls []) := by
    intro n
    induction n with
    | zero =>
      intro c v1 H locs ls hM
      exact absurd (Eq.symm (hM : none = some c9)) sm_ne
    | succ n2 ih2 =>
      intro c v1 H locs ls hM hP hS hl
      unfold pX1_reset_2 at hM
      refine lv_iload_n hx hb dX1_reset_2 rfl (lv_at hl 1 rfl) ?_
      refine lv_bipush (v := 10) hx hb dX1_reset_3 (by decide) ?_
      refine lv_icmp_ge (tgt := 21) hx hb dX1_reset_5 (by decide) (fun e4 => ?_) (fun e4 => ?_)
      · have hM := it_p e4 hM
        refine lv_aload_n hx hb dX1_reset_21 rfl (lv_at hl 0 rfl) ?_
        refine lv_iconst (v := 0) hx hb dX1_reset_22 (by decide) ?_
        obtain ⟨c1, hc1, hM⟩ := pfA_some hM
        refine gput (w := wH ad cA) (c := c) (c1 := c1) (v := .int 0) hx hb hts i1 tyX1 tyX1_ok nmX1 hown hK1 hP (hD c) hS 0 rfl rfl 2 (by decide) f21 rfl rfl rfl rfl (Nat.le_of_ble_eq_true rfl) (by rw [hc1]; rfl) dX1_reset_23 (fun H locs hP hS => ?_)
        exact W.vret hx hb hr (fun t ht hW => ⟨⟨_, rfl, pr1 hM, hPt ht hP⟩, hS.F ht⟩) hS.2.2 dX1_reset_26
      · have hM := it_n e4 hM
        refine lv_aload_n hx hb dX1_reset_8 rfl (lv_at hl 0 rfl) ?_
        refine gget (v := .ref (ad 1)) hx hb hts i1 hown hK1 hP 0 rfl rfl 0 (by decide) f9 rfl rfl dX1_reset_9 ?_
        refine lv_iload_n hx hb dX1_reset_12 rfl (lv_at hl 1 rfl) ?_
        refine lv_iconst (v := (-1)) hx hb dX1_reset_13 (by decide) ?_
        obtain ⟨h3, c2, hc2, hM⟩ := stA_some sm_ne hM
        refine gast (w := wH ad cA) (c := c) (c1 := c2) hx hb hK1 hP (hD c) hS 1 0 rfl rfl h3 (by rw [hc2]; rfl) dX1_reset_14 (fun H locs hP hS => ?_)
        refine lv_iinc (v := v1 + 1) (lv' := [(1, .int (v1 + 1)), (0, .ref (ad 0))]) hx hb dX1_reset_15 hl (k := 1) rfl rfl (by decide) rfl (fun ls hl => ?_)
        refine lv_goto (tgt := 2) hx hb dX1_reset_18 (by decide) ?_
        exact ih2 _ _ _ _ _ hM hP hS (lv_sub hl [1, 0] rfl)
  have hl := lv_entry [.ref (ad 0)] (n := 2) (Nat.le_of_ble_eq_true rfl)
  rw [lg_entry_eq]
  generalize (lg_sl [.ref (ad 0)] ++ List.replicate (2 - (lg_sl [.ref (ad 0)]).length) Slot.unset).toArray = ls at hl ⊢
  have hl : lv_has ls 2 [(0, .ref (ad 0))] := hl
  have hP : va_P (dC, dI) vwCl (wH ad cA c) s.heap := hP
  unfold pX1_reset at hM
  refine lv_iconst (v := 0) hx hb dX1_reset_0 (by decide) ?_
  refine lv_istore_n (lv' := [(1, .int 0), (0, .ref (ad 0))]) hx hb dX1_reset_1 rfl hl (by decide) rfl (fun ls hl => ?_)
  exact L2 _ _ _ _ _ _ hM hP hS (lv_sub hl [1, 0] rfl)
def at_X1_init (dC : Nat → ClassId) (dI : Nat → Nat → Nat) (A : Nat → Prop) (h0 : Nat) (t : State) : Prop := ∃ (q1 : Nat) (A1 : ClassId) (q2 : Nat) (A2 : ClassId), va_P (dC, dI) vwCl [(h0, .inr (1, [.ref q1, .ref q2, .int 0])), (q1, .inl (A1, 10, .inl (fun j => if j < 10 then (-1) else 0))), (q2, .inl (A2, 24, .inl (fun _ => 0)))] t.heap ∧ va_K (dC, dI) vwCl [(A1, .int), (A2, .int)] t ∧ va_D A [(h0, .inr (1, [.ref q1, .ref q2, .int 0])), (q1, .inl (A1, 10, .inl (fun j => if j < 10 then (-1) else 0))), (q2, .inl (A2, 24, .inl (fun _ => 0)))]
set_option maxHeartbeats 4000000 in
set_option maxRecDepth 100000 in
theorem iX1_init (l : Launch) (dC : Nat → ClassId) (dI : Nat → Nat → Nat) (h0 : Nat) (sz : Nat) : Met l yX1_init wsX1_init ({ frames := 1, cells := 2, slots := 34, locals := 21 }) (va_Pc [.ref h0] (fun U => U.heap.size = sz ∧ va_P (dC, dI) vwCl [(h0, .inr (1, [.null, .null, .int 0]))] U.heap ∧ va_K (dC, dI) vwCl [] U ∧ va_D (fun _ => True) [(h0, .inr (1, [.null, .null, .int 0]))])) (va_Qv (fun _ : Unit => True) (fun _ t => at_X1_init dC dI (va_A [(h0, .inr (1, [.null, .null, .int 0]))] sz) h0 t) (va_A [(h0, .inr (1, [.null, .null, .int 0]))] sz)) 2 34 (va_A [(h0, .inr (1, [.null, .null, .int 0]))] sz) := by
  refine Met.ofW (cc := cX1_init) (maxL := 1) (ret := none) (by decide) rfl ?_
  intro p e s m args below meth cd s₁ B hml hv
  obtain ⟨rfl, rfl, hP, hK, hD0⟩ := hv
  have hx := B.exec
  have hb := B.bytes
  have hr := B.returns
  have hts := atoms_spec (ws := wsX1_init) B.pre
  have hown : s.vm.findClass RX1 = some m.cls := findClass_of_methodNamed B.named
  have hlocks := B.notSynchronized
  have hin : meth.name = "<init>" := (name_of_methodNamed B.named B.method).1
  have hD := hD0.self (sz := s.heap.size)
  generalize hAe : va_A [(h0, .inr (1, [.null, .null, .int 0]))] s.heap.size = A at hD ⊢
  have hA : ∀ q : Nat, s.heap.size ≤ q → A q := fun q h => by rw [← hAe]; exact Or.inr h
  have hS : va_S A s.heap s.heap [] := va_S.rf
  have i1 : ∀ w ∈ u_ws RX1 TX1 3, w ∈ wsX1_init := by decide +kernel
  have f9 := hts (.fieldLink RX1 9 "StickyHeap$Holders" "roots" "[I") (by decide +kernel)
  have f15 := hts (.fieldLink RX1 15 "StickyHeap$Holders" "stack" "[I") (by decide +kernel)
  have hl := lv_entry [.ref h0] (n := 1) (Nat.le_of_ble_eq_true rfl)
  rw [lg_entry_eq]
  generalize (lg_sl [.ref h0] ++ List.replicate (1 - (lg_sl [.ref h0]).length) Slot.unset).toArray = ls at hl ⊢
  have hl : lv_has ls 1 [(0, .ref h0)] := hl
  have hP : va_P (dC, dI) vwCl [(h0, .inr (1, [.null, .null, .int 0]))] s.heap := hP
  refine lv_aload_n hx hb dX1_init_0 rfl (lv_at hl 0 rfl) ?_
  refine W.objInit hx hb hown (hts (.methodLink RX1 3 objectInit) (by decide +kernel)) (hts (.instanceMethod objectInit) (by decide +kernel)) (hts (.code objectInit ⟨#[0xb1]⟩ 1 none) (List.mem_of_getElem? (i := 3) rfl)) rfl (by rw [hml]; exact hl.1) rfl dX1_init_1 (Nat.le_of_ble_eq_true rfl) (Nat.le_of_ble_eq_true rfl) ?_
  refine W.eq (g2 := F0 m 4 ls []) rfl ?_
  refine lv_aload_n hx hb dX1_init_4 rfl (lv_at hl 0 rfl) ?_
  refine lv_bipush (v := 10) hx hb dX1_init_5 (by decide) ?_
  refine va_newa (atype := .int) (n := 10) (ty := .int) (N' := 10) (a0 := (10, .inl (fun _ => 0))) hx hb (hts (.arrayClass .int) (by decide +kernel)) rfl hK hP hD hS hA (fun _ => rfl) (by decide) (by decide) (by decide) (Nat.le_of_ble_eq_true rfl) (Nat.le_of_ble_eq_true rfl) dX1_init_7 (fun q1 A1 H hK hP hD hS => ?_)
  have hP : va_P (dC, dI) vwCl [(h0, .inr (1, [.null, .null, .int 0])), (q1, .inl (A1, 10, .inl (fun _ => 0)))] H := hP
  have hD : va_D A [(h0, .inr (1, [.null, .null, .int 0])), (q1, .inl (A1, 10, .inl (fun _ => 0)))] := hD
  have hK : va_K (dC, dI) vwCl [(A1, .int)] s := hK
  refine W.widen (k := 1) (n := 10) (by omega) (by omega) ?_
  refine va_putF (D := (dC, dI)) (ci := 1) (v := .ref q1) (C := RX1) (T := TX1) (N := 3) hx hb hts i1 tyX1 tyX1_ok nmX1 hown hK hP hD hS 0 rfl rfl 0 (by decide) f9 (fun _ h9 => h9) rfl hin rfl (tyX1_ok 0 (by decide)) rfl rfl (Nat.le_of_ble_eq_true rfl) dX1_init_9 (fun H locs hP hD hS => ?_)
  have hP : va_P (dC, dI) vwCl [(h0, .inr (1, [.ref q1, .null, .int 0])), (q1, .inl (A1, 10, .inl (fun _ => 0)))] H := hP
  have hD : va_D A [(h0, .inr (1, [.ref q1, .null, .int 0])), (q1, .inl (A1, 10, .inl (fun _ => 0)))] := hD
  refine lv_aload_n hx hb dX1_init_12 rfl (lv_at hl 0 rfl) ?_
  refine lv_bipush (v := 24) hx hb dX1_init_13 (by decide) ?_
  refine va_newa (atype := .int) (n := 24) (ty := .int) (N' := 24) (a0 := (24, .inl (fun _ => 0))) hx hb (hts (.arrayClass .int) (by decide +kernel)) rfl hK hP hD hS hA (fun _ => rfl) (by decide) (by decide) (by decide) (Nat.le_of_ble_eq_true rfl) (Nat.le_of_ble_eq_true rfl) dX1_init_15 (fun q2 A2 H hK hP hD hS => ?_)
  have hP : va_P (dC, dI) vwCl [(h0, .inr (1, [.ref q1, .null, .int 0])), (q1, .inl (A1, 10, .inl (fun _ => 0))), (q2, .inl (A2, 24, .inl (fun _ => 0)))] H := hP
  have hD : va_D A [(h0, .inr (1, [.ref q1, .null, .int 0])), (q1, .inl (A1, 10, .inl (fun _ => 0))), (q2, .inl (A2, 24, .inl (fun _ => 0)))] := hD
  have hK : va_K (dC, dI) vwCl [(A1, .int), (A2, .int)] s := hK
  refine W.widen (k := 2) (n := 34) (by omega) (by omega) ?_
  refine va_putF (D := (dC, dI)) (ci := 1) (v := .ref q2) (C := RX1) (T := TX1) (N := 3) hx hb hts i1 tyX1 tyX1_ok nmX1 hown hK hP hD hS 0 rfl rfl 1 (by decide) f15 (fun _ h9 => h9) rfl hin rfl (tyX1_ok 1 (by decide)) rfl rfl (Nat.le_of_ble_eq_true rfl) dX1_init_17 (fun H locs hP hD hS => ?_)
  have hP : va_P (dC, dI) vwCl [(h0, .inr (1, [.ref q1, .ref q2, .int 0])), (q1, .inl (A1, 10, .inl (fun _ => 0))), (q2, .inl (A2, 24, .inl (fun _ => 0)))] H := hP
  have hD : va_D A [(h0, .inr (1, [.ref q1, .ref q2, .int 0])), (q1, .inl (A1, 10, .inl (fun _ => 0))), (q2, .inl (A2, 24, .inl (fun _ => 0)))] := hD
  refine lv_aload_n hx hb dX1_init_20 rfl (lv_at hl 0 rfl) ?_
  have hap : apart 3 (adl [h0, q1, q2]) := apart_of hD rfl
  have hF := fA_in (N := 3) (ad := adl [h0, q1, q2]) hD hS hA rfl
  refine va_callv (va_runV (As := []) (rest := []) ⟨hx, hb, hml, hown, hts⟩ (kH_reset l dC dI (adl [h0, q1, q2]) (fun k => if k = 0 then A1 else A2) hap H.size zH _ (hreset_n zH)) (cwV 0 hts gX1_init_X1_reset rfl rfl rfl (by decide +kernel) ⟨Nat.le_of_ble_eq_true rfl, Nat.le_of_ble_eq_true rfl⟩) ⟨gP_bl (kH_st _ _), va_recv hK hP (ci := 1) (q0 := 0) rfl rfl, fun U hU hWm => ⟨rfl, by rw [hU], by rw [hU]; exact hP, va_K.moved hWm.alike hK⟩⟩ rfl rfl hl.1 rfl (lv_room (Nat.le_of_ble_eq_true rfl)) dX1_init_21 ⟨Nat.le_of_ble_eq_true rfl, Nat.le_of_ble_eq_true rfl⟩) hS (fun q _ h => hF q h) hF (fun u t H1 locs ht hvm hw hB hz1 hk1 hS => ?_)
  rw [ht] at hB
  subst hw
  have hP : va_P (dC, dI) vwCl [(h0, .inr (1, [.ref q1, .ref q2, .int 0])), (q1, .inl (A1, 10, .inl (fun j => if j < 10 then (-1) else 0))), (q2, .inl (A2, 24, .inl (fun _ => 0)))] H1 := hB
  have hD : va_D A [(h0, .inr (1, [.ref q1, .ref q2, .int 0])), (q1, .inl (A1, 10, .inl (fun j => if j < 10 then (-1) else 0))), (q2, .inl (A2, 24, .inl (fun _ => 0)))] := dE hD rfl
  exact W.vret hx hb hr (fun t ht hW => ⟨⟨(), rfl, trivial, q1, A1, q2, A2, by rw [ht]; exact hP, va_K.moved hW.alike hK, hD⟩, hS.F ht⟩) hS.2.2 dX1_init_24
def acl : List ClassId → ClassId → Nat → ClassId
  | [], z, _ => z
  | a :: _, _, 0 => a
  | _ :: l, z, n + 1 => acl l z n
def atC (dC : Nat → ClassId) (dI : Nat → Nat → Nat) (A : Nat → Prop) (h0 : Nat) (t : State) : Prop := ∃ (ad : Nat → Nat) (cA : Nat → ClassId), ad 0 = h0 ∧ va_P (dC, dI) vwCl (wC ad cA bgnC) t.heap ∧ va_K (dC, dI) vwCl (tC cA) t ∧ va_D A (wC ad cA bgnC)
def atM (dC : Nat → ClassId) (dI : Nat → Nat → Nat) (A : Nat → Prop) (h0 : Nat) (t : State) : Prop := ∃ (ad : Nat → Nat) (cA : Nat → ClassId), ad 0 = h0 ∧ va_P (dC, dI) vwCl (wM ad cA bgnM) t.heap ∧ va_K (dC, dI) vwCl (tM cA) t ∧ va_D A (wM ad cA bgnM)
