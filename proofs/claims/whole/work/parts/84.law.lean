section LAWC
variable {p : Program} {l : Launch} {e : Env} {s : State} {m : MethodId} {below : List Frame} {meth : Method} {cd : Code} {dC : Nat → ClassId} {dI : Nat → Nat → Nat} {b L i : Nat} {xs : Nat → Int32} {ad ad' : Nat → Nat} {cA cA' : Nat → ClassId} {iv : Int32} {c t : HS} {H : Heap} {locs : List Loc} {ls : Array Slot}
set_option maxHeartbeats 2000000 in
set_option maxRecDepth 20000 in
theorem lc_opn (C0 : lw_At p s m meth cd b L xs) (hL : L ≤ 2048) (F : lw_F dC dI ad ad' cA cA' s) (hi : i + 4 ≤ L) (ei : iv = nI i) (G : lw_G dC dI ad ad' cA cA' s c t H locs) (hRR : RR c t) (hl : lv_has ls 4 [(0, .ref b), (1, .ref (ad 0)), (2, .ref (ad' 0)), (3, .int iv)]) (kk : ∀ (c t : HS) (H : Heap) (locs : List Loc), lw_G dC dI ad ad' cA cA' s c t H locs → RR c t → W p l e room_1 s m #[Value.ref b] below meth cd H locs 32 15704 (lw_Z below #[Value.ref b] s) (F0 m 736 ls [])) : W p l e room_1 s m #[Value.ref b] below meth cd H locs 32 15704 (lw_Z below #[Value.ref b] s) (F0 m 140 ls []) := by
  have hts2 := lw_ts C0
  have hx := C0.1
  have hb := C0.2.1
  have hX := C0.2.2.2.2.2.2.1
  have hbl := C0.2.2.2.2.2.2.2.1
  have hbA : ¬ (fun q : Nat => s.heap.size ≤ q) b := Nat.not_le.mpr hbl
  have h1 : vp_in (iv + 1) L := lw_in 1 hL hi ei (by decide)
  obtain ⟨r, c', t', e1, e2, hR3⟩ := op_open hRR (xs (iv + 1).toNatClampNeg)
  refine lv_aload_n hx hb dL_law_140 rfl (lv_at hl 1 rfl) ?_
  refine lv_aload_n hx hb dL_law_141 rfl (lv_at hl 0 rfl) ?_
  refine lv_iload_n hx hb dL_law_142 rfl (lv_at hl 3 rfl) ?_
  refine lv_iconst (v := 1) hx hb dL_law_143 (by decide) ?_
  refine lv_iadd hx hb dL_law_144 ?_
  refine va_sld hx hb hX hbl hbA G.2.2 h1 dL_law_145 ?_
  refine lwcCi (As := [.int (xs (iv + 1).toNatClampNeg)]) (rest := []) C0 F G (kX4_open l dC dI ad cA F.1 _ c (xs (iv + 1).toNatClampNeg) _ _ e1) (cwV 1 hts2 gL_law_X4_open rfl rfl rfl (by decide +kernel) ⟨Nat.le_of_ble_eq_true rfl, Nat.le_of_ble_eq_true rfl⟩) rfl hl.1 rfl (Nat.le_of_ble_eq_true rfl) dL_law_146 (fun H locs G => ?_)
  refine lv_aload_n hx hb dL_law_149 rfl (lv_at hl 2 rfl) ?_
  refine lv_aload_n hx hb dL_law_150 rfl (lv_at hl 0 rfl) ?_
  refine lv_iload_n hx hb dL_law_151 rfl (lv_at hl 3 rfl) ?_
  refine lv_iconst (v := 1) hx hb dL_law_152 (by decide) ?_
  refine lv_iadd hx hb dL_law_153 ?_
  refine va_sld hx hb hX hbl hbA G.2.2 h1 dL_law_154 ?_
  refine lwcMi (As := [.int (xs (iv + 1).toNatClampNeg)]) (rest := [.int r]) C0 F G (kX5_open l dC dI ad' cA' F.2.1 _ t (xs (iv + 1).toNatClampNeg) _ _ e2) (cwV 1 hts2 gL_law_X5_open rfl rfl rfl (by decide +kernel) ⟨Nat.le_of_ble_eq_true rfl, Nat.le_of_ble_eq_true rfl⟩) rfl hl.1 rfl (Nat.le_of_ble_eq_true rfl) dL_law_155 (fun H locs G => ?_)
  exact lv_icmp_eq (tgt := 736) hx hb dL_law_158 (by decide) (fun _ => kk _ _ _ _ G hR3) (fun hc => absurd rfl hc)
set_option maxHeartbeats 2000000 in
set_option maxRecDepth 20000 in
theorem lc_way (C0 : lw_At p s m meth cd b L xs) (hL : L ≤ 2048) (F : lw_F dC dI ad ad' cA cA' s) (hi : i + 4 ≤ L) (ei : iv = nI i) (G : lw_G dC dI ad ad' cA cA' s c t H locs) (hRR : RR c t) (hl : lv_has ls 4 [(0, .ref b), (1, .ref (ad 0)), (2, .ref (ad' 0)), (3, .int iv)]) (kk : ∀ (c t : HS) (H : Heap) (locs : List Loc), lw_G dC dI ad ad' cA cA' s c t H locs → RR c t → W p l e room_1 s m #[Value.ref b] below meth cd H locs 32 15704 (lw_Z below #[Value.ref b] s) (F0 m 736 ls [])) : W p l e room_1 s m #[Value.ref b] below meth cd H locs 32 15704 (lw_Z below #[Value.ref b] s) (F0 m 163 ls []) := by
  have hts2 := lw_ts C0
  have hx := C0.1
  have hb := C0.2.1
  have hX := C0.2.2.2.2.2.2.1
  have hbl := C0.2.2.2.2.2.2.2.1
  have hbA : ¬ (fun q : Nat => s.heap.size ≤ q) b := Nat.not_le.mpr hbl
  have h1 : vp_in (iv + 1) L := lw_in 1 hL hi ei (by decide)
  obtain ⟨r, c', t', e1, e2, hR3⟩ := op_way hRR (xs (iv + 1).toNatClampNeg)
  refine lv_aload_n hx hb dL_law_163 rfl (lv_at hl 1 rfl) ?_
  refine lv_aload_n hx hb dL_law_164 rfl (lv_at hl 0 rfl) ?_
  refine lv_iload_n hx hb dL_law_165 rfl (lv_at hl 3 rfl) ?_
  refine lv_iconst (v := 1) hx hb dL_law_166 (by decide) ?_
  refine lv_iadd hx hb dL_law_167 ?_
  refine va_sld hx hb hX hbl hbA G.2.2 h1 dL_law_168 ?_
  refine lwcCi (As := [.int (xs (iv + 1).toNatClampNeg)]) (rest := []) C0 F G (kX4_way l dC dI ad cA F.1 _ c (xs (iv + 1).toNatClampNeg) _ _ e1) (cwV 1 hts2 gL_law_X4_way rfl rfl rfl (by decide +kernel) ⟨Nat.le_of_ble_eq_true rfl, Nat.le_of_ble_eq_true rfl⟩) rfl hl.1 rfl (Nat.le_of_ble_eq_true rfl) dL_law_169 (fun H locs G => ?_)
  refine lv_aload_n hx hb dL_law_172 rfl (lv_at hl 2 rfl) ?_
  refine lv_aload_n hx hb dL_law_173 rfl (lv_at hl 0 rfl) ?_
  refine lv_iload_n hx hb dL_law_174 rfl (lv_at hl 3 rfl) ?_
  refine lv_iconst (v := 1) hx hb dL_law_175 (by decide) ?_
  refine lv_iadd hx hb dL_law_176 ?_
  refine va_sld hx hb hX hbl hbA G.2.2 h1 dL_law_177 ?_
  refine lwcMi (As := [.int (xs (iv + 1).toNatClampNeg)]) (rest := [.int r]) C0 F G (kX5_way l dC dI ad' cA' F.2.1 _ t (xs (iv + 1).toNatClampNeg) _ _ e2) (cwV 1 hts2 gL_law_X5_way rfl rfl rfl (by decide +kernel) ⟨Nat.le_of_ble_eq_true rfl, Nat.le_of_ble_eq_true rfl⟩) rfl hl.1 rfl (Nat.le_of_ble_eq_true rfl) dL_law_178 (fun H locs G => ?_)
  exact lv_icmp_eq (tgt := 736) hx hb dL_law_181 (by decide) (fun _ => kk _ _ _ _ G hR3) (fun hc => absurd rfl hc)
set_option maxHeartbeats 2000000 in
set_option maxRecDepth 20000 in
theorem lc_auto (C0 : lw_At p s m meth cd b L xs) (hL : L ≤ 2048) (F : lw_F dC dI ad ad' cA cA' s) (hi : i + 4 ≤ L) (ei : iv = nI i) (G : lw_G dC dI ad ad' cA cA' s c t H locs) (hRR : RR c t) (hl : lv_has ls 4 [(0, .ref b), (1, .ref (ad 0)), (2, .ref (ad' 0)), (3, .int iv)]) (kk : ∀ (c t : HS) (H : Heap) (locs : List Loc), lw_G dC dI ad ad' cA cA' s c t H locs → RR c t → W p l e room_1 s m #[Value.ref b] below meth cd H locs 32 15704 (lw_Z below #[Value.ref b] s) (F0 m 736 ls [])) : W p l e room_1 s m #[Value.ref b] below meth cd H locs 32 15704 (lw_Z below #[Value.ref b] s) (F0 m 186 ls []) := by
  have hts2 := lw_ts C0
  have hx := C0.1
  have hb := C0.2.1
  have hX := C0.2.2.2.2.2.2.1
  have hbl := C0.2.2.2.2.2.2.2.1
  have hbA : ¬ (fun q : Nat => s.heap.size ≤ q) b := Nat.not_le.mpr hbl
  have h1 : vp_in (iv + 1) L := lw_in 1 hL hi ei (by decide)
  by_cases hz : (xs (iv + 1).toNatClampNeg) = 0
  · obtain ⟨r, c', t', e1, e2, hR3⟩ := op_auto hRR 0 (Or.inl rfl)
    refine lv_aload_n hx hb dL_law_186 rfl (lv_at hl 1 rfl) ?_
    refine lv_aload_n hx hb dL_law_187 rfl (lv_at hl 0 rfl) ?_
    refine lv_iload_n hx hb dL_law_188 rfl (lv_at hl 3 rfl) ?_
    refine lv_iconst (v := 1) hx hb dL_law_189 (by decide) ?_
    refine lv_iadd hx hb dL_law_190 ?_
    refine va_sld hx hb hX hbl hbA G.2.2 h1 dL_law_191 ?_
    refine lv_if_eq (tgt := 199) hx hb dL_law_192 (by decide) (fun _ => ?_) (fun hc => absurd hz hc)
    refine lv_iconst (v := 0) hx hb dL_law_199 (by decide) ?_
    refine lwcCi (As := [.int 0]) (rest := []) C0 F G (kX4_auto l dC dI ad cA F.1 _ c 0 _ _ e1) (cwV 1 hts2 gL_law_X4_auto rfl rfl rfl (by decide +kernel) ⟨Nat.le_of_ble_eq_true rfl, Nat.le_of_ble_eq_true rfl⟩) rfl hl.1 rfl (Nat.le_of_ble_eq_true rfl) dL_law_200 (fun H locs G => ?_)
    refine lv_aload_n hx hb dL_law_203 rfl (lv_at hl 2 rfl) ?_
    refine lv_aload_n hx hb dL_law_204 rfl (lv_at hl 0 rfl) ?_
    refine lv_iload_n hx hb dL_law_205 rfl (lv_at hl 3 rfl) ?_
    refine lv_iconst (v := 1) hx hb dL_law_206 (by decide) ?_
    refine lv_iadd hx hb dL_law_207 ?_
    refine va_sld hx hb hX hbl hbA G.2.2 h1 dL_law_208 ?_
    refine lv_if_eq (tgt := 216) hx hb dL_law_209 (by decide) (fun _ => ?_) (fun hc => absurd hz hc)
    refine lv_iconst (v := 0) hx hb dL_law_216 (by decide) ?_
    refine lwcMi (As := [.int 0]) (rest := [.int r]) C0 F G (kX5_auto l dC dI ad' cA' F.2.1 _ t 0 _ _ e2) (cwV 1 hts2 gL_law_X5_auto rfl rfl rfl (by decide +kernel) ⟨Nat.le_of_ble_eq_true rfl, Nat.le_of_ble_eq_true rfl⟩) rfl hl.1 rfl (Nat.le_of_ble_eq_true rfl) dL_law_217 (fun H locs G => ?_)
    exact lv_icmp_eq (tgt := 736) hx hb dL_law_220 (by decide) (fun _ => kk _ _ _ _ G hR3) (fun hc => absurd rfl hc)
  · obtain ⟨r, c', t', e1, e2, hR3⟩ := op_auto hRR 1 (Or.inr rfl)
    refine lv_aload_n hx hb dL_law_186 rfl (lv_at hl 1 rfl) ?_
    refine lv_aload_n hx hb dL_law_187 rfl (lv_at hl 0 rfl) ?_
    refine lv_iload_n hx hb dL_law_188 rfl (lv_at hl 3 rfl) ?_
    refine lv_iconst (v := 1) hx hb dL_law_189 (by decide) ?_
    refine lv_iadd hx hb dL_law_190 ?_
    refine va_sld hx hb hX hbl hbA G.2.2 h1 dL_law_191 ?_
    refine lv_if_eq (tgt := 199) hx hb dL_law_192 (by decide) (fun hc => absurd hc hz) (fun _ => ?_)
    refine lv_iconst (v := 1) hx hb dL_law_195 (by decide) ?_
    refine lv_goto (tgt := 200) hx hb dL_law_196 (by decide) ?_
    refine lwcCi (As := [.int 1]) (rest := []) C0 F G (kX4_auto l dC dI ad cA F.1 _ c 1 _ _ e1) (cwV 1 hts2 gL_law_X4_auto rfl rfl rfl (by decide +kernel) ⟨Nat.le_of_ble_eq_true rfl, Nat.le_of_ble_eq_true rfl⟩) rfl hl.1 rfl (Nat.le_of_ble_eq_true rfl) dL_law_200 (fun H locs G => ?_)
    refine lv_aload_n hx hb dL_law_203 rfl (lv_at hl 2 rfl) ?_
    refine lv_aload_n hx hb dL_law_204 rfl (lv_at hl 0 rfl) ?_
    refine lv_iload_n hx hb dL_law_205 rfl (lv_at hl 3 rfl) ?_
    refine lv_iconst (v := 1) hx hb dL_law_206 (by decide) ?_
    refine lv_iadd hx hb dL_law_207 ?_
    refine va_sld hx hb hX hbl hbA G.2.2 h1 dL_law_208 ?_
    refine lv_if_eq (tgt := 216) hx hb dL_law_209 (by decide) (fun hc => absurd hc hz) (fun _ => ?_)
    refine lv_iconst (v := 1) hx hb dL_law_212 (by decide) ?_
    refine lv_goto (tgt := 217) hx hb dL_law_213 (by decide) ?_
    refine lwcMi (As := [.int 1]) (rest := [.int r]) C0 F G (kX5_auto l dC dI ad' cA' F.2.1 _ t 1 _ _ e2) (cwV 1 hts2 gL_law_X5_auto rfl rfl rfl (by decide +kernel) ⟨Nat.le_of_ble_eq_true rfl, Nat.le_of_ble_eq_true rfl⟩) rfl hl.1 rfl (Nat.le_of_ble_eq_true rfl) dL_law_217 (fun H locs G => ?_)
    exact lv_icmp_eq (tgt := 736) hx hb dL_law_220 (by decide) (fun _ => kk _ _ _ _ G hR3) (fun hc => absurd rfl hc)
set_option maxHeartbeats 2000000 in
set_option maxRecDepth 20000 in
theorem lc_make (C0 : lw_At p s m meth cd b L xs) (hL : L ≤ 2048) (F : lw_F dC dI ad ad' cA cA' s) (hi : i + 4 ≤ L) (ei : iv = nI i) (G : lw_G dC dI ad ad' cA cA' s c t H locs) (hRR : RR c t) (hl : lv_has ls 4 [(0, .ref b), (1, .ref (ad 0)), (2, .ref (ad' 0)), (3, .int iv)]) (kk : ∀ (c t : HS) (H : Heap) (locs : List Loc), lw_G dC dI ad ad' cA cA' s c t H locs → RR c t → W p l e room_1 s m #[Value.ref b] below meth cd H locs 32 15704 (lw_Z below #[Value.ref b] s) (F0 m 736 ls [])) : W p l e room_1 s m #[Value.ref b] below meth cd H locs 32 15704 (lw_Z below #[Value.ref b] s) (F0 m 225 ls []) := by
  have hts2 := lw_ts C0
  have hx := C0.1
  have hb := C0.2.1
  have hX := C0.2.2.2.2.2.2.1
  have hbl := C0.2.2.2.2.2.2.2.1
  have hbA : ¬ (fun q : Nat => s.heap.size ≤ q) b := Nat.not_le.mpr hbl
  have h1 : vp_in (iv + 1) L := lw_in 1 hL hi ei (by decide)
  have h2 : vp_in (iv + 2) L := lw_in 2 hL hi ei (by decide)
  obtain ⟨r, c', t', e1, e2, hR3⟩ := op_make hRR (xs (iv + 1).toNatClampNeg) (xs (iv + 2).toNatClampNeg)
  refine lv_aload_n hx hb dL_law_225 rfl (lv_at hl 1 rfl) ?_
  refine lv_aload_n hx hb dL_law_226 rfl (lv_at hl 0 rfl) ?_
  refine lv_iload_n hx hb dL_law_227 rfl (lv_at hl 3 rfl) ?_
  refine lv_iconst (v := 1) hx hb dL_law_228 (by decide) ?_
  refine lv_iadd hx hb dL_law_229 ?_
  refine va_sld hx hb hX hbl hbA G.2.2 h1 dL_law_230 ?_
  refine lv_aload_n hx hb dL_law_231 rfl (lv_at hl 0 rfl) ?_
  refine lv_iload_n hx hb dL_law_232 rfl (lv_at hl 3 rfl) ?_
  refine lv_iconst (v := 2) hx hb dL_law_233 (by decide) ?_
  refine lv_iadd hx hb dL_law_234 ?_
  refine va_sld hx hb hX hbl hbA G.2.2 h2 dL_law_235 ?_
  refine lwcCi (As := [.int (xs (iv + 1).toNatClampNeg), .int (xs (iv + 2).toNatClampNeg)]) (rest := []) C0 F G (kX4_make l dC dI ad cA F.1 _ c (xs (iv + 1).toNatClampNeg) (xs (iv + 2).toNatClampNeg) _ _ e1) (cwV 2 hts2 gL_law_X4_make rfl rfl rfl (by decide +kernel) ⟨Nat.le_of_ble_eq_true rfl, Nat.le_of_ble_eq_true rfl⟩) rfl hl.1 rfl (Nat.le_of_ble_eq_true rfl) dL_law_236 (fun H locs G => ?_)
  refine lv_aload_n hx hb dL_law_239 rfl (lv_at hl 2 rfl) ?_
  refine lv_aload_n hx hb dL_law_240 rfl (lv_at hl 0 rfl) ?_
  refine lv_iload_n hx hb dL_law_241 rfl (lv_at hl 3 rfl) ?_
  refine lv_iconst (v := 1) hx hb dL_law_242 (by decide) ?_
  refine lv_iadd hx hb dL_law_243 ?_
  refine va_sld hx hb hX hbl hbA G.2.2 h1 dL_law_244 ?_
  refine lv_aload_n hx hb dL_law_245 rfl (lv_at hl 0 rfl) ?_
  refine lv_iload_n hx hb dL_law_246 rfl (lv_at hl 3 rfl) ?_
  refine lv_iconst (v := 2) hx hb dL_law_247 (by decide) ?_
  refine lv_iadd hx hb dL_law_248 ?_
  refine va_sld hx hb hX hbl hbA G.2.2 h2 dL_law_249 ?_
  refine lwcMi (As := [.int (xs (iv + 1).toNatClampNeg), .int (xs (iv + 2).toNatClampNeg)]) (rest := [.int r]) C0 F G (kX5_make l dC dI ad' cA' F.2.1 _ t (xs (iv + 1).toNatClampNeg) (xs (iv + 2).toNatClampNeg) _ _ e2) (cwV 2 hts2 gL_law_X5_make rfl rfl rfl (by decide +kernel) ⟨Nat.le_of_ble_eq_true rfl, Nat.le_of_ble_eq_true rfl⟩) rfl hl.1 rfl (Nat.le_of_ble_eq_true rfl) dL_law_250 (fun H locs G => ?_)
  exact lv_icmp_eq (tgt := 736) hx hb dL_law_253 (by decide) (fun _ => kk _ _ _ _ G hR3) (fun hc => absurd rfl hc)
set_option maxHeartbeats 2000000 in
set_option maxRecDepth 20000 in
theorem lc_put (C0 : lw_At p s m meth cd b L xs) (hL : L ≤ 2048) (F : lw_F dC dI ad ad' cA cA' s) (hi : i + 4 ≤ L) (ei : iv = nI i) (G : lw_G dC dI ad ad' cA cA' s c t H locs) (hRR : RR c t) (hl : lv_has ls 4 [(0, .ref b), (1, .ref (ad 0)), (2, .ref (ad' 0)), (3, .int iv)]) (kk : ∀ (c t : HS) (H : Heap) (locs : List Loc), lw_G dC dI ad ad' cA cA' s c t H locs → RR c t → W p l e room_1 s m #[Value.ref b] below meth cd H locs 32 15704 (lw_Z below #[Value.ref b] s) (F0 m 736 ls [])) : W p l e room_1 s m #[Value.ref b] below meth cd H locs 32 15704 (lw_Z below #[Value.ref b] s) (F0 m 258 ls []) := by
  have hts2 := lw_ts C0
  have hx := C0.1
  have hb := C0.2.1
  have hX := C0.2.2.2.2.2.2.1
  have hbl := C0.2.2.2.2.2.2.2.1
  have hbA : ¬ (fun q : Nat => s.heap.size ≤ q) b := Nat.not_le.mpr hbl
  have h1 : vp_in (iv + 1) L := lw_in 1 hL hi ei (by decide)
  have h2 : vp_in (iv + 2) L := lw_in 2 hL hi ei (by decide)
  have h3 : vp_in (iv + 3) L := lw_in 3 hL hi ei (by decide)
  obtain ⟨r, c', t', e1, e2, hR3⟩ := op_put hRR (xs (iv + 1).toNatClampNeg) (xs (iv + 2).toNatClampNeg) (xs (iv + 3).toNatClampNeg)
  refine lv_aload_n hx hb dL_law_258 rfl (lv_at hl 1 rfl) ?_
  refine lv_aload_n hx hb dL_law_259 rfl (lv_at hl 0 rfl) ?_
  refine lv_iload_n hx hb dL_law_260 rfl (lv_at hl 3 rfl) ?_
  refine lv_iconst (v := 1) hx hb dL_law_261 (by decide) ?_
  refine lv_iadd hx hb dL_law_262 ?_
  refine va_sld hx hb hX hbl hbA G.2.2 h1 dL_law_263 ?_
  refine lv_aload_n hx hb dL_law_264 rfl (lv_at hl 0 rfl) ?_
  refine lv_iload_n hx hb dL_law_265 rfl (lv_at hl 3 rfl) ?_
  refine lv_iconst (v := 2) hx hb dL_law_266 (by decide) ?_
  refine lv_iadd hx hb dL_law_267 ?_
  refine va_sld hx hb hX hbl hbA G.2.2 h2 dL_law_268 ?_
  refine lv_aload_n hx hb dL_law_269 rfl (lv_at hl 0 rfl) ?_
  refine lv_iload_n hx hb dL_law_270 rfl (lv_at hl 3 rfl) ?_
  refine lv_iconst (v := 3) hx hb dL_law_271 (by decide) ?_
  refine lv_iadd hx hb dL_law_272 ?_
  refine va_sld hx hb hX hbl hbA G.2.2 h3 dL_law_273 ?_
  refine lwcCi (As := [.int (xs (iv + 1).toNatClampNeg), .int (xs (iv + 2).toNatClampNeg), .int (xs (iv + 3).toNatClampNeg)]) (rest := []) C0 F G (kX4_put l dC dI ad cA F.1 _ c (xs (iv + 1).toNatClampNeg) (xs (iv + 2).toNatClampNeg) (xs (iv + 3).toNatClampNeg) _ _ e1) (cwV 3 hts2 gL_law_X4_put rfl rfl rfl (by decide +kernel) ⟨Nat.le_of_ble_eq_true rfl, Nat.le_of_ble_eq_true rfl⟩) rfl hl.1 rfl (Nat.le_of_ble_eq_true rfl) dL_law_274 (fun H locs G => ?_)
  refine lv_aload_n hx hb dL_law_277 rfl (lv_at hl 2 rfl) ?_
  refine lv_aload_n hx hb dL_law_278 rfl (lv_at hl 0 rfl) ?_
  refine lv_iload_n hx hb dL_law_279 rfl (lv_at hl 3 rfl) ?_
  refine lv_iconst (v := 1) hx hb dL_law_280 (by decide) ?_
  refine lv_iadd hx hb dL_law_281 ?_
  refine va_sld hx hb hX hbl hbA G.2.2 h1 dL_law_282 ?_
  refine lv_aload_n hx hb dL_law_283 rfl (lv_at hl 0 rfl) ?_
  refine lv_iload_n hx hb dL_law_284 rfl (lv_at hl 3 rfl) ?_
  refine lv_iconst (v := 2) hx hb dL_law_285 (by decide) ?_
  refine lv_iadd hx hb dL_law_286 ?_
  refine va_sld hx hb hX hbl hbA G.2.2 h2 dL_law_287 ?_
  refine lv_aload_n hx hb dL_law_288 rfl (lv_at hl 0 rfl) ?_
  refine lv_iload_n hx hb dL_law_289 rfl (lv_at hl 3 rfl) ?_
  refine lv_iconst (v := 3) hx hb dL_law_290 (by decide) ?_
  refine lv_iadd hx hb dL_law_291 ?_
  refine va_sld hx hb hX hbl hbA G.2.2 h3 dL_law_292 ?_
  refine lwcMi (As := [.int (xs (iv + 1).toNatClampNeg), .int (xs (iv + 2).toNatClampNeg), .int (xs (iv + 3).toNatClampNeg)]) (rest := [.int r]) C0 F G (kX5_put l dC dI ad' cA' F.2.1 _ t (xs (iv + 1).toNatClampNeg) (xs (iv + 2).toNatClampNeg) (xs (iv + 3).toNatClampNeg) _ _ e2) (cwV 3 hts2 gL_law_X5_put rfl rfl rfl (by decide +kernel) ⟨Nat.le_of_ble_eq_true rfl, Nat.le_of_ble_eq_true rfl⟩) rfl hl.1 rfl (Nat.le_of_ble_eq_true rfl) dL_law_293 (fun H locs G => ?_)
  exact lv_icmp_eq (tgt := 736) hx hb dL_law_296 (by decide) (fun _ => kk _ _ _ _ G hR3) (fun hc => absurd rfl hc)
set_option maxHeartbeats 2000000 in
set_option maxRecDepth 20000 in
theorem lc_link (C0 : lw_At p s m meth cd b L xs) (hL : L ≤ 2048) (F : lw_F dC dI ad ad' cA cA' s) (hi : i + 4 ≤ L) (ei : iv = nI i) (G : lw_G dC dI ad ad' cA cA' s c t H locs) (hRR : RR c t) (hl : lv_has ls 4 [(0, .ref b), (1, .ref (ad 0)), (2, .ref (ad' 0)), (3, .int iv)]) (kk : ∀ (c t : HS) (H : Heap) (locs : List Loc), lw_G dC dI ad ad' cA cA' s c t H locs → RR c t → W p l e room_1 s m #[Value.ref b] below meth cd H locs 32 15704 (lw_Z below #[Value.ref b] s) (F0 m 736 ls [])) : W p l e room_1 s m #[Value.ref b] below meth cd H locs 32 15704 (lw_Z below #[Value.ref b] s) (F0 m 301 ls []) := by
  have hts2 := lw_ts C0
  have hx := C0.1
  have hb := C0.2.1
  have hX := C0.2.2.2.2.2.2.1
  have hbl := C0.2.2.2.2.2.2.2.1
  have hbA : ¬ (fun q : Nat => s.heap.size ≤ q) b := Nat.not_le.mpr hbl
  have h1 : vp_in (iv + 1) L := lw_in 1 hL hi ei (by decide)
  have h2 : vp_in (iv + 2) L := lw_in 2 hL hi ei (by decide)
  obtain ⟨r, e1, e2⟩ := op_link hRR (xs (iv + 1).toNatClampNeg) (xs (iv + 2).toNatClampNeg)
  refine lv_aload_n hx hb dL_law_301 rfl (lv_at hl 1 rfl) ?_
  refine lv_aload_n hx hb dL_law_302 rfl (lv_at hl 0 rfl) ?_
  refine lv_iload_n hx hb dL_law_303 rfl (lv_at hl 3 rfl) ?_
  refine lv_iconst (v := 1) hx hb dL_law_304 (by decide) ?_
  refine lv_iadd hx hb dL_law_305 ?_
  refine va_sld hx hb hX hbl hbA G.2.2 h1 dL_law_306 ?_
  refine lv_aload_n hx hb dL_law_307 rfl (lv_at hl 0 rfl) ?_
  refine lv_iload_n hx hb dL_law_308 rfl (lv_at hl 3 rfl) ?_
  refine lv_iconst (v := 2) hx hb dL_law_309 (by decide) ?_
  refine lv_iadd hx hb dL_law_310 ?_
  refine va_sld hx hb hX hbl hbA G.2.2 h2 dL_law_311 ?_
  refine lwcCi (As := [.int (xs (iv + 1).toNatClampNeg), .int (xs (iv + 2).toNatClampNeg)]) (rest := []) C0 F G (kX4_link l dC dI ad cA F.1 _ c (xs (iv + 1).toNatClampNeg) (xs (iv + 2).toNatClampNeg) _ e1) (cwV 2 hts2 gL_law_X4_link rfl rfl rfl (by decide +kernel) ⟨Nat.le_of_ble_eq_true rfl, Nat.le_of_ble_eq_true rfl⟩) rfl hl.1 rfl (Nat.le_of_ble_eq_true rfl) dL_law_312 (fun H locs G => ?_)
  refine lv_aload_n hx hb dL_law_315 rfl (lv_at hl 2 rfl) ?_
  refine lv_aload_n hx hb dL_law_316 rfl (lv_at hl 0 rfl) ?_
  refine lv_iload_n hx hb dL_law_317 rfl (lv_at hl 3 rfl) ?_
  refine lv_iconst (v := 1) hx hb dL_law_318 (by decide) ?_
  refine lv_iadd hx hb dL_law_319 ?_
  refine va_sld hx hb hX hbl hbA G.2.2 h1 dL_law_320 ?_
  refine lv_aload_n hx hb dL_law_321 rfl (lv_at hl 0 rfl) ?_
  refine lv_iload_n hx hb dL_law_322 rfl (lv_at hl 3 rfl) ?_
  refine lv_iconst (v := 2) hx hb dL_law_323 (by decide) ?_
  refine lv_iadd hx hb dL_law_324 ?_
  refine va_sld hx hb hX hbl hbA G.2.2 h2 dL_law_325 ?_
  refine lwcMi (As := [.int (xs (iv + 1).toNatClampNeg), .int (xs (iv + 2).toNatClampNeg)]) (rest := [.int r]) C0 F G (kX5_link l dC dI ad' cA' F.2.1 _ t (xs (iv + 1).toNatClampNeg) (xs (iv + 2).toNatClampNeg) _ e2) (cwV 2 hts2 gL_law_X5_link rfl rfl rfl (by decide +kernel) ⟨Nat.le_of_ble_eq_true rfl, Nat.le_of_ble_eq_true rfl⟩) rfl hl.1 rfl (Nat.le_of_ble_eq_true rfl) dL_law_326 (fun H locs G => ?_)
  exact lv_icmp_eq (tgt := 736) hx hb dL_law_329 (by decide) (fun _ => kk _ _ _ _ G hRR) (fun hc => absurd rfl hc)
set_option maxHeartbeats 2000000 in
set_option maxRecDepth 20000 in
theorem lc_set (C0 : lw_At p s m meth cd b L xs) (hL : L ≤ 2048) (F : lw_F dC dI ad ad' cA cA' s) (hi : i + 4 ≤ L) (ei : iv = nI i) (G : lw_G dC dI ad ad' cA cA' s c t H locs) (hRR : RR c t) (hl : lv_has ls 4 [(0, .ref b), (1, .ref (ad 0)), (2, .ref (ad' 0)), (3, .int iv)]) (kk : ∀ (c t : HS) (H : Heap) (locs : List Loc), lw_G dC dI ad ad' cA cA' s c t H locs → RR c t → W p l e room_1 s m #[Value.ref b] below meth cd H locs 32 15704 (lw_Z below #[Value.ref b] s) (F0 m 736 ls [])) : W p l e room_1 s m #[Value.ref b] below meth cd H locs 32 15704 (lw_Z below #[Value.ref b] s) (F0 m 334 ls []) := by
  have hts2 := lw_ts C0
  have hx := C0.1
  have hb := C0.2.1
  have hX := C0.2.2.2.2.2.2.1
  have hbl := C0.2.2.2.2.2.2.2.1
  have hbA : ¬ (fun q : Nat => s.heap.size ≤ q) b := Nat.not_le.mpr hbl
  have h1 : vp_in (iv + 1) L := lw_in 1 hL hi ei (by decide)
  have h2 : vp_in (iv + 2) L := lw_in 2 hL hi ei (by decide)
  have h3 : vp_in (iv + 3) L := lw_in 3 hL hi ei (by decide)
  obtain ⟨r, c', t', e1, e2, hR3⟩ := op_set hRR (xs (iv + 1).toNatClampNeg) (xs (iv + 2).toNatClampNeg) (xs (iv + 3).toNatClampNeg)
  refine lv_aload_n hx hb dL_law_334 rfl (lv_at hl 1 rfl) ?_
  refine lv_aload_n hx hb dL_law_335 rfl (lv_at hl 0 rfl) ?_
  refine lv_iload_n hx hb dL_law_336 rfl (lv_at hl 3 rfl) ?_
  refine lv_iconst (v := 1) hx hb dL_law_337 (by decide) ?_
  refine lv_iadd hx hb dL_law_338 ?_
  refine va_sld hx hb hX hbl hbA G.2.2 h1 dL_law_339 ?_
  refine lv_aload_n hx hb dL_law_340 rfl (lv_at hl 0 rfl) ?_
  refine lv_iload_n hx hb dL_law_341 rfl (lv_at hl 3 rfl) ?_
  refine lv_iconst (v := 2) hx hb dL_law_342 (by decide) ?_
  refine lv_iadd hx hb dL_law_343 ?_
  refine va_sld hx hb hX hbl hbA G.2.2 h2 dL_law_344 ?_
  refine lv_aload_n hx hb dL_law_345 rfl (lv_at hl 0 rfl) ?_
  refine lv_iload_n hx hb dL_law_346 rfl (lv_at hl 3 rfl) ?_
  refine lv_iconst (v := 3) hx hb dL_law_347 (by decide) ?_
  refine lv_iadd hx hb dL_law_348 ?_
  refine va_sld hx hb hX hbl hbA G.2.2 h3 dL_law_349 ?_
  refine lwcCi (As := [.int (xs (iv + 1).toNatClampNeg), .int (xs (iv + 2).toNatClampNeg), .int (xs (iv + 3).toNatClampNeg)]) (rest := []) C0 F G (kX4_set l dC dI ad cA F.1 _ c (xs (iv + 1).toNatClampNeg) (xs (iv + 2).toNatClampNeg) (xs (iv + 3).toNatClampNeg) _ _ e1) (cwV 3 hts2 gL_law_X4_set rfl rfl rfl (by decide +kernel) ⟨Nat.le_of_ble_eq_true rfl, Nat.le_of_ble_eq_true rfl⟩) rfl hl.1 rfl (Nat.le_of_ble_eq_true rfl) dL_law_350 (fun H locs G => ?_)
  refine lv_aload_n hx hb dL_law_353 rfl (lv_at hl 2 rfl) ?_
  refine lv_aload_n hx hb dL_law_354 rfl (lv_at hl 0 rfl) ?_
  refine lv_iload_n hx hb dL_law_355 rfl (lv_at hl 3 rfl) ?_
  refine lv_iconst (v := 1) hx hb dL_law_356 (by decide) ?_
  refine lv_iadd hx hb dL_law_357 ?_
  refine va_sld hx hb hX hbl hbA G.2.2 h1 dL_law_358 ?_
  refine lv_aload_n hx hb dL_law_359 rfl (lv_at hl 0 rfl) ?_
  refine lv_iload_n hx hb dL_law_360 rfl (lv_at hl 3 rfl) ?_
  refine lv_iconst (v := 2) hx hb dL_law_361 (by decide) ?_
  refine lv_iadd hx hb dL_law_362 ?_
  refine va_sld hx hb hX hbl hbA G.2.2 h2 dL_law_363 ?_
  refine lv_aload_n hx hb dL_law_364 rfl (lv_at hl 0 rfl) ?_
  refine lv_iload_n hx hb dL_law_365 rfl (lv_at hl 3 rfl) ?_
  refine lv_iconst (v := 3) hx hb dL_law_366 (by decide) ?_
  refine lv_iadd hx hb dL_law_367 ?_
  refine va_sld hx hb hX hbl hbA G.2.2 h3 dL_law_368 ?_
  refine lwcMi (As := [.int (xs (iv + 1).toNatClampNeg), .int (xs (iv + 2).toNatClampNeg), .int (xs (iv + 3).toNatClampNeg)]) (rest := [.int r]) C0 F G (kX5_set l dC dI ad' cA' F.2.1 _ t (xs (iv + 1).toNatClampNeg) (xs (iv + 2).toNatClampNeg) (xs (iv + 3).toNatClampNeg) _ _ e2) (cwV 3 hts2 gL_law_X5_set rfl rfl rfl (by decide +kernel) ⟨Nat.le_of_ble_eq_true rfl, Nat.le_of_ble_eq_true rfl⟩) rfl hl.1 rfl (Nat.le_of_ble_eq_true rfl) dL_law_369 (fun H locs G => ?_)
  exact lv_icmp_eq (tgt := 736) hx hb dL_law_372 (by decide) (fun _ => kk _ _ _ _ G hR3) (fun hc => absurd rfl hc)
set_option maxHeartbeats 2000000 in
set_option maxRecDepth 20000 in
theorem lc_get (C0 : lw_At p s m meth cd b L xs) (hL : L ≤ 2048) (F : lw_F dC dI ad ad' cA cA' s) (hi : i + 4 ≤ L) (ei : iv = nI i) (G : lw_G dC dI ad ad' cA cA' s c t H locs) (hRR : RR c t) (hl : lv_has ls 4 [(0, .ref b), (1, .ref (ad 0)), (2, .ref (ad' 0)), (3, .int iv)]) (kk : ∀ (c t : HS) (H : Heap) (locs : List Loc), lw_G dC dI ad ad' cA cA' s c t H locs → RR c t → W p l e room_1 s m #[Value.ref b] below meth cd H locs 32 15704 (lw_Z below #[Value.ref b] s) (F0 m 736 ls [])) : W p l e room_1 s m #[Value.ref b] below meth cd H locs 32 15704 (lw_Z below #[Value.ref b] s) (F0 m 377 ls []) := by
  have hts2 := lw_ts C0
  have hx := C0.1
  have hb := C0.2.1
  have hX := C0.2.2.2.2.2.2.1
  have hbl := C0.2.2.2.2.2.2.2.1
  have hbA : ¬ (fun q : Nat => s.heap.size ≤ q) b := Nat.not_le.mpr hbl
  have h1 : vp_in (iv + 1) L := lw_in 1 hL hi ei (by decide)
  have h2 : vp_in (iv + 2) L := lw_in 2 hL hi ei (by decide)
  obtain ⟨r, c', t', e1, e2, hR3⟩ := op_get hRR (xs (iv + 1).toNatClampNeg) (xs (iv + 2).toNatClampNeg)
  refine lv_aload_n hx hb dL_law_377 rfl (lv_at hl 1 rfl) ?_
  refine lv_aload_n hx hb dL_law_378 rfl (lv_at hl 0 rfl) ?_
  refine lv_iload_n hx hb dL_law_379 rfl (lv_at hl 3 rfl) ?_
  refine lv_iconst (v := 1) hx hb dL_law_380 (by decide) ?_
  refine lv_iadd hx hb dL_law_381 ?_
  refine va_sld hx hb hX hbl hbA G.2.2 h1 dL_law_382 ?_
  refine lv_aload_n hx hb dL_law_383 rfl (lv_at hl 0 rfl) ?_
  refine lv_iload_n hx hb dL_law_384 rfl (lv_at hl 3 rfl) ?_
  refine lv_iconst (v := 2) hx hb dL_law_385 (by decide) ?_
  refine lv_iadd hx hb dL_law_386 ?_
  refine va_sld hx hb hX hbl hbA G.2.2 h2 dL_law_387 ?_
  refine lwcCi (As := [.int (xs (iv + 1).toNatClampNeg), .int (xs (iv + 2).toNatClampNeg)]) (rest := []) C0 F G (kX4_get l dC dI ad cA F.1 _ c (xs (iv + 1).toNatClampNeg) (xs (iv + 2).toNatClampNeg) _ _ e1) (cwV 2 hts2 gL_law_X4_get rfl rfl rfl (by decide +kernel) ⟨Nat.le_of_ble_eq_true rfl, Nat.le_of_ble_eq_true rfl⟩) rfl hl.1 rfl (Nat.le_of_ble_eq_true rfl) dL_law_388 (fun H locs G => ?_)
  refine lv_aload_n hx hb dL_law_391 rfl (lv_at hl 2 rfl) ?_
  refine lv_aload_n hx hb dL_law_392 rfl (lv_at hl 0 rfl) ?_
  refine lv_iload_n hx hb dL_law_393 rfl (lv_at hl 3 rfl) ?_
  refine lv_iconst (v := 1) hx hb dL_law_394 (by decide) ?_
  refine lv_iadd hx hb dL_law_395 ?_
  refine va_sld hx hb hX hbl hbA G.2.2 h1 dL_law_396 ?_
  refine lv_aload_n hx hb dL_law_397 rfl (lv_at hl 0 rfl) ?_
  refine lv_iload_n hx hb dL_law_398 rfl (lv_at hl 3 rfl) ?_
  refine lv_iconst (v := 2) hx hb dL_law_399 (by decide) ?_
  refine lv_iadd hx hb dL_law_400 ?_
  refine va_sld hx hb hX hbl hbA G.2.2 h2 dL_law_401 ?_
  refine lwcMi (As := [.int (xs (iv + 1).toNatClampNeg), .int (xs (iv + 2).toNatClampNeg)]) (rest := [.int r]) C0 F G (kX5_get l dC dI ad' cA' F.2.1 _ t (xs (iv + 1).toNatClampNeg) (xs (iv + 2).toNatClampNeg) _ _ e2) (cwV 2 hts2 gL_law_X5_get rfl rfl rfl (by decide +kernel) ⟨Nat.le_of_ble_eq_true rfl, Nat.le_of_ble_eq_true rfl⟩) rfl hl.1 rfl (Nat.le_of_ble_eq_true rfl) dL_law_402 (fun H locs G => ?_)
  exact lv_icmp_eq (tgt := 736) hx hb dL_law_405 (by decide) (fun _ => kk _ _ _ _ G hR3) (fun hc => absurd rfl hc)
set_option maxHeartbeats 2000000 in
set_option maxRecDepth 20000 in
theorem lc_seen (C0 : lw_At p s m meth cd b L xs) (hL : L ≤ 2048) (F : lw_F dC dI ad ad' cA cA' s) (hi : i + 4 ≤ L) (ei : iv = nI i) (G : lw_G dC dI ad ad' cA cA' s c t H locs) (hRR : RR c t) (hl : lv_has ls 4 [(0, .ref b), (1, .ref (ad 0)), (2, .ref (ad' 0)), (3, .int iv)]) (kk : ∀ (c t : HS) (H : Heap) (locs : List Loc), lw_G dC dI ad ad' cA cA' s c t H locs → RR c t → W p l e room_1 s m #[Value.ref b] below meth cd H locs 32 15704 (lw_Z below #[Value.ref b] s) (F0 m 736 ls [])) : W p l e room_1 s m #[Value.ref b] below meth cd H locs 32 15704 (lw_Z below #[Value.ref b] s) (F0 m 410 ls []) := by
  have hts2 := lw_ts C0
  have hx := C0.1
  have hb := C0.2.1
  have hX := C0.2.2.2.2.2.2.1
  have hbl := C0.2.2.2.2.2.2.2.1
  have hbA : ¬ (fun q : Nat => s.heap.size ≤ q) b := Nat.not_le.mpr hbl
  obtain ⟨r, e2⟩ : ∃ r, pX5_seen t = r := ⟨_, rfl⟩
  have e1 : pX4_seen c = r := (op_seen hRR).trans e2
  refine lv_aload_n hx hb dL_law_410 rfl (lv_at hl 1 rfl) ?_
  refine lwcCi (As := []) (rest := []) C0 F G (kX4_seen l dC dI ad cA F.1 _ c  _ e1) (cwV 0 hts2 gL_law_X4_seen rfl rfl rfl (by decide +kernel) ⟨Nat.le_of_ble_eq_true rfl, Nat.le_of_ble_eq_true rfl⟩) rfl hl.1 rfl (Nat.le_of_ble_eq_true rfl) dL_law_411 (fun H locs G => ?_)
  refine lv_aload_n hx hb dL_law_414 rfl (lv_at hl 2 rfl) ?_
  refine lwcMi (As := []) (rest := [.int r]) C0 F G (kX5_seen l dC dI ad' cA' F.2.1 _ t  _ e2) (cwV 0 hts2 gL_law_X5_seen rfl rfl rfl (by decide +kernel) ⟨Nat.le_of_ble_eq_true rfl, Nat.le_of_ble_eq_true rfl⟩) rfl hl.1 rfl (Nat.le_of_ble_eq_true rfl) dL_law_415 (fun H locs G => ?_)
  exact lv_icmp_eq (tgt := 736) hx hb dL_law_418 (by decide) (fun _ => kk _ _ _ _ G hRR) (fun hc => absurd rfl hc)
set_option maxHeartbeats 2000000 in
set_option maxRecDepth 20000 in
theorem lc_about (C0 : lw_At p s m meth cd b L xs) (hL : L ≤ 2048) (F : lw_F dC dI ad ad' cA cA' s) (hi : i + 4 ≤ L) (ei : iv = nI i) (G : lw_G dC dI ad ad' cA cA' s c t H locs) (hRR : RR c t) (hl : lv_has ls 4 [(0, .ref b), (1, .ref (ad 0)), (2, .ref (ad' 0)), (3, .int iv)]) (kk : ∀ (c t : HS) (H : Heap) (locs : List Loc), lw_G dC dI ad ad' cA cA' s c t H locs → RR c t → W p l e room_1 s m #[Value.ref b] below meth cd H locs 32 15704 (lw_Z below #[Value.ref b] s) (F0 m 736 ls [])) : W p l e room_1 s m #[Value.ref b] below meth cd H locs 32 15704 (lw_Z below #[Value.ref b] s) (F0 m 423 ls []) := by
  have hts2 := lw_ts C0
  have hx := C0.1
  have hb := C0.2.1
  have hX := C0.2.2.2.2.2.2.1
  have hbl := C0.2.2.2.2.2.2.2.1
  have hbA : ¬ (fun q : Nat => s.heap.size ≤ q) b := Nat.not_le.mpr hbl
  have h1 : vp_in (iv + 1) L := lw_in 1 hL hi ei (by decide)
  have h2 : vp_in (iv + 2) L := lw_in 2 hL hi ei (by decide)
  obtain ⟨r, e1, e2⟩ := op_about hRR (xs (iv + 1).toNatClampNeg) (xs (iv + 2).toNatClampNeg)
  refine lv_aload_n hx hb dL_law_423 rfl (lv_at hl 1 rfl) ?_
  refine lv_aload_n hx hb dL_law_424 rfl (lv_at hl 0 rfl) ?_
  refine lv_iload_n hx hb dL_law_425 rfl (lv_at hl 3 rfl) ?_
  refine lv_iconst (v := 1) hx hb dL_law_426 (by decide) ?_
  refine lv_iadd hx hb dL_law_427 ?_
  refine va_sld hx hb hX hbl hbA G.2.2 h1 dL_law_428 ?_
  refine lv_aload_n hx hb dL_law_429 rfl (lv_at hl 0 rfl) ?_
  refine lv_iload_n hx hb dL_law_430 rfl (lv_at hl 3 rfl) ?_
  refine lv_iconst (v := 2) hx hb dL_law_431 (by decide) ?_
  refine lv_iadd hx hb dL_law_432 ?_
  refine va_sld hx hb hX hbl hbA G.2.2 h2 dL_law_433 ?_
  refine lwcCi (As := [.int (xs (iv + 1).toNatClampNeg), .int (xs (iv + 2).toNatClampNeg)]) (rest := []) C0 F G (kX4_about l dC dI ad cA F.1 _ c (xs (iv + 1).toNatClampNeg) (xs (iv + 2).toNatClampNeg) _ e1) (cwV 2 hts2 gL_law_X4_about rfl rfl rfl (by decide +kernel) ⟨Nat.le_of_ble_eq_true rfl, Nat.le_of_ble_eq_true rfl⟩) rfl hl.1 rfl (Nat.le_of_ble_eq_true rfl) dL_law_434 (fun H locs G => ?_)
  refine lv_aload_n hx hb dL_law_437 rfl (lv_at hl 2 rfl) ?_
  refine lv_aload_n hx hb dL_law_438 rfl (lv_at hl 0 rfl) ?_
  refine lv_iload_n hx hb dL_law_439 rfl (lv_at hl 3 rfl) ?_
  refine lv_iconst (v := 1) hx hb dL_law_440 (by decide) ?_
  refine lv_iadd hx hb dL_law_441 ?_
  refine va_sld hx hb hX hbl hbA G.2.2 h1 dL_law_442 ?_
  refine lv_aload_n hx hb dL_law_443 rfl (lv_at hl 0 rfl) ?_
  refine lv_iload_n hx hb dL_law_444 rfl (lv_at hl 3 rfl) ?_
  refine lv_iconst (v := 2) hx hb dL_law_445 (by decide) ?_
  refine lv_iadd hx hb dL_law_446 ?_
  refine va_sld hx hb hX hbl hbA G.2.2 h2 dL_law_447 ?_
  refine lwcMi (As := [.int (xs (iv + 1).toNatClampNeg), .int (xs (iv + 2).toNatClampNeg)]) (rest := [.int r]) C0 F G (kX5_about l dC dI ad' cA' F.2.1 _ t (xs (iv + 1).toNatClampNeg) (xs (iv + 2).toNatClampNeg) _ e2) (cwV 2 hts2 gL_law_X5_about rfl rfl rfl (by decide +kernel) ⟨Nat.le_of_ble_eq_true rfl, Nat.le_of_ble_eq_true rfl⟩) rfl hl.1 rfl (Nat.le_of_ble_eq_true rfl) dL_law_448 (fun H locs G => ?_)
  exact lv_icmp_eq (tgt := 736) hx hb dL_law_451 (by decide) (fun _ => kk _ _ _ _ G hRR) (fun hc => absurd rfl hc)
set_option maxHeartbeats 2000000 in
set_option maxRecDepth 20000 in
theorem lc_points (C0 : lw_At p s m meth cd b L xs) (hL : L ≤ 2048) (F : lw_F dC dI ad ad' cA cA' s) (hi : i + 4 ≤ L) (ei : iv = nI i) (G : lw_G dC dI ad ad' cA cA' s c t H locs) (hRR : RR c t) (hl : lv_has ls 4 [(0, .ref b), (1, .ref (ad 0)), (2, .ref (ad' 0)), (3, .int iv)]) (kk : ∀ (c t : HS) (H : Heap) (locs : List Loc), lw_G dC dI ad ad' cA cA' s c t H locs → RR c t → W p l e room_1 s m #[Value.ref b] below meth cd H locs 32 15704 (lw_Z below #[Value.ref b] s) (F0 m 736 ls [])) : W p l e room_1 s m #[Value.ref b] below meth cd H locs 32 15704 (lw_Z below #[Value.ref b] s) (F0 m 456 ls []) := by
  have hts2 := lw_ts C0
  have hx := C0.1
  have hb := C0.2.1
  have hX := C0.2.2.2.2.2.2.1
  have hbl := C0.2.2.2.2.2.2.2.1
  have hbA : ¬ (fun q : Nat => s.heap.size ≤ q) b := Nat.not_le.mpr hbl
  have h1 : vp_in (iv + 1) L := lw_in 1 hL hi ei (by decide)
  obtain ⟨r, e1, e2⟩ := op_points hRR (xs (iv + 1).toNatClampNeg)
  refine lv_aload_n hx hb dL_law_456 rfl (lv_at hl 1 rfl) ?_
  refine lv_aload_n hx hb dL_law_457 rfl (lv_at hl 0 rfl) ?_
  refine lv_iload_n hx hb dL_law_458 rfl (lv_at hl 3 rfl) ?_
  refine lv_iconst (v := 1) hx hb dL_law_459 (by decide) ?_
  refine lv_iadd hx hb dL_law_460 ?_
  refine va_sld hx hb hX hbl hbA G.2.2 h1 dL_law_461 ?_
  refine lwcCi (As := [.int (xs (iv + 1).toNatClampNeg)]) (rest := []) C0 F G (kX4_points l dC dI ad cA F.1 _ c (xs (iv + 1).toNatClampNeg) _ e1) (cwV 1 hts2 gL_law_X4_points rfl rfl rfl (by decide +kernel) ⟨Nat.le_of_ble_eq_true rfl, Nat.le_of_ble_eq_true rfl⟩) rfl hl.1 rfl (Nat.le_of_ble_eq_true rfl) dL_law_462 (fun H locs G => ?_)
  refine lv_aload_n hx hb dL_law_465 rfl (lv_at hl 2 rfl) ?_
  refine lv_aload_n hx hb dL_law_466 rfl (lv_at hl 0 rfl) ?_
  refine lv_iload_n hx hb dL_law_467 rfl (lv_at hl 3 rfl) ?_
  refine lv_iconst (v := 1) hx hb dL_law_468 (by decide) ?_
  refine lv_iadd hx hb dL_law_469 ?_
  refine va_sld hx hb hX hbl hbA G.2.2 h1 dL_law_470 ?_
  refine lwcMi (As := [.int (xs (iv + 1).toNatClampNeg)]) (rest := [.int r]) C0 F G (kX5_points l dC dI ad' cA' F.2.1 _ t (xs (iv + 1).toNatClampNeg) _ e2) (cwV 1 hts2 gL_law_X5_points rfl rfl rfl (by decide +kernel) ⟨Nat.le_of_ble_eq_true rfl, Nat.le_of_ble_eq_true rfl⟩) rfl hl.1 rfl (Nat.le_of_ble_eq_true rfl) dL_law_471 (fun H locs G => ?_)
  exact lv_icmp_eq (tgt := 736) hx hb dL_law_474 (by decide) (fun _ => kk _ _ _ _ G hRR) (fun hc => absurd rfl hc)
set_option maxHeartbeats 2000000 in
set_option maxRecDepth 20000 in
theorem lc_root (C0 : lw_At p s m meth cd b L xs) (hL : L ≤ 2048) (F : lw_F dC dI ad ad' cA cA' s) (hi : i + 4 ≤ L) (ei : iv = nI i) (G : lw_G dC dI ad ad' cA cA' s c t H locs) (hRR : RR c t) (hl : lv_has ls 4 [(0, .ref b), (1, .ref (ad 0)), (2, .ref (ad' 0)), (3, .int iv)]) (kk : ∀ (c t : HS) (H : Heap) (locs : List Loc), lw_G dC dI ad ad' cA cA' s c t H locs → RR c t → W p l e room_1 s m #[Value.ref b] below meth cd H locs 32 15704 (lw_Z below #[Value.ref b] s) (F0 m 736 ls [])) : W p l e room_1 s m #[Value.ref b] below meth cd H locs 32 15704 (lw_Z below #[Value.ref b] s) (F0 m 479 ls []) := by
  have hts2 := lw_ts C0
  have hx := C0.1
  have hb := C0.2.1
  have hX := C0.2.2.2.2.2.2.1
  have hbl := C0.2.2.2.2.2.2.2.1
  have hbA : ¬ (fun q : Nat => s.heap.size ≤ q) b := Nat.not_le.mpr hbl
  have h1 : vp_in (iv + 1) L := lw_in 1 hL hi ei (by decide)
  have h2 : vp_in (iv + 2) L := lw_in 2 hL hi ei (by decide)
  obtain ⟨r, c', t', e1, e2, hR3⟩ := op_root hRR (xs (iv + 1).toNatClampNeg) (xs (iv + 2).toNatClampNeg)
  refine lv_aload_n hx hb dL_law_479 rfl (lv_at hl 1 rfl) ?_
  refine lv_aload_n hx hb dL_law_480 rfl (lv_at hl 0 rfl) ?_
  refine lv_iload_n hx hb dL_law_481 rfl (lv_at hl 3 rfl) ?_
  refine lv_iconst (v := 1) hx hb dL_law_482 (by decide) ?_
  refine lv_iadd hx hb dL_law_483 ?_
  refine va_sld hx hb hX hbl hbA G.2.2 h1 dL_law_484 ?_
  refine lv_aload_n hx hb dL_law_485 rfl (lv_at hl 0 rfl) ?_
  refine lv_iload_n hx hb dL_law_486 rfl (lv_at hl 3 rfl) ?_
  refine lv_iconst (v := 2) hx hb dL_law_487 (by decide) ?_
  refine lv_iadd hx hb dL_law_488 ?_
  refine va_sld hx hb hX hbl hbA G.2.2 h2 dL_law_489 ?_
  refine lwcCi (As := [.int (xs (iv + 1).toNatClampNeg), .int (xs (iv + 2).toNatClampNeg)]) (rest := []) C0 F G (kX4_root l dC dI ad cA F.1 _ c (xs (iv + 1).toNatClampNeg) (xs (iv + 2).toNatClampNeg) _ _ e1) (cwV 2 hts2 gL_law_X4_root rfl rfl rfl (by decide +kernel) ⟨Nat.le_of_ble_eq_true rfl, Nat.le_of_ble_eq_true rfl⟩) rfl hl.1 rfl (Nat.le_of_ble_eq_true rfl) dL_law_490 (fun H locs G => ?_)
  refine lv_aload_n hx hb dL_law_493 rfl (lv_at hl 2 rfl) ?_
  refine lv_aload_n hx hb dL_law_494 rfl (lv_at hl 0 rfl) ?_
  refine lv_iload_n hx hb dL_law_495 rfl (lv_at hl 3 rfl) ?_
  refine lv_iconst (v := 1) hx hb dL_law_496 (by decide) ?_
  refine lv_iadd hx hb dL_law_497 ?_
  refine va_sld hx hb hX hbl hbA G.2.2 h1 dL_law_498 ?_
  refine lv_aload_n hx hb dL_law_499 rfl (lv_at hl 0 rfl) ?_
  refine lv_iload_n hx hb dL_law_500 rfl (lv_at hl 3 rfl) ?_
  refine lv_iconst (v := 2) hx hb dL_law_501 (by decide) ?_
  refine lv_iadd hx hb dL_law_502 ?_
  refine va_sld hx hb hX hbl hbA G.2.2 h2 dL_law_503 ?_
  refine lwcMi (As := [.int (xs (iv + 1).toNatClampNeg), .int (xs (iv + 2).toNatClampNeg)]) (rest := [.int r]) C0 F G (kX5_root l dC dI ad' cA' F.2.1 _ t (xs (iv + 1).toNatClampNeg) (xs (iv + 2).toNatClampNeg) _ _ e2) (cwV 2 hts2 gL_law_X5_root rfl rfl rfl (by decide +kernel) ⟨Nat.le_of_ble_eq_true rfl, Nat.le_of_ble_eq_true rfl⟩) rfl hl.1 rfl (Nat.le_of_ble_eq_true rfl) dL_law_504 (fun H locs G => ?_)
  exact lv_icmp_eq (tgt := 736) hx hb dL_law_507 (by decide) (fun _ => kk _ _ _ _ G hR3) (fun hc => absurd rfl hc)
set_option maxHeartbeats 2000000 in
set_option maxRecDepth 20000 in
theorem lc_rooted (C0 : lw_At p s m meth cd b L xs) (hL : L ≤ 2048) (F : lw_F dC dI ad ad' cA cA' s) (hi : i + 4 ≤ L) (ei : iv = nI i) (G : lw_G dC dI ad ad' cA cA' s c t H locs) (hRR : RR c t) (hl : lv_has ls 4 [(0, .ref b), (1, .ref (ad 0)), (2, .ref (ad' 0)), (3, .int iv)]) (kk : ∀ (c t : HS) (H : Heap) (locs : List Loc), lw_G dC dI ad ad' cA cA' s c t H locs → RR c t → W p l e room_1 s m #[Value.ref b] below meth cd H locs 32 15704 (lw_Z below #[Value.ref b] s) (F0 m 736 ls [])) : W p l e room_1 s m #[Value.ref b] below meth cd H locs 32 15704 (lw_Z below #[Value.ref b] s) (F0 m 512 ls []) := by
  have hts2 := lw_ts C0
  have hx := C0.1
  have hb := C0.2.1
  have hX := C0.2.2.2.2.2.2.1
  have hbl := C0.2.2.2.2.2.2.2.1
  have hbA : ¬ (fun q : Nat => s.heap.size ≤ q) b := Nat.not_le.mpr hbl
  have h1 : vp_in (iv + 1) L := lw_in 1 hL hi ei (by decide)
  obtain ⟨r, e1, e2⟩ := op_rooted hRR (xs (iv + 1).toNatClampNeg)
  refine lv_aload_n hx hb dL_law_512 rfl (lv_at hl 1 rfl) ?_
  refine lv_aload_n hx hb dL_law_513 rfl (lv_at hl 0 rfl) ?_
  refine lv_iload_n hx hb dL_law_514 rfl (lv_at hl 3 rfl) ?_
  refine lv_iconst (v := 1) hx hb dL_law_515 (by decide) ?_
  refine lv_iadd hx hb dL_law_516 ?_
  refine va_sld hx hb hX hbl hbA G.2.2 h1 dL_law_517 ?_
  refine lwcCi (As := [.int (xs (iv + 1).toNatClampNeg)]) (rest := []) C0 F G (kX4_rooted l dC dI ad cA F.1 _ c (xs (iv + 1).toNatClampNeg) _ e1) (cwV 1 hts2 gL_law_X4_rooted rfl rfl rfl (by decide +kernel) ⟨Nat.le_of_ble_eq_true rfl, Nat.le_of_ble_eq_true rfl⟩) rfl hl.1 rfl (Nat.le_of_ble_eq_true rfl) dL_law_518 (fun H locs G => ?_)
  refine lv_aload_n hx hb dL_law_521 rfl (lv_at hl 2 rfl) ?_
  refine lv_aload_n hx hb dL_law_522 rfl (lv_at hl 0 rfl) ?_
  refine lv_iload_n hx hb dL_law_523 rfl (lv_at hl 3 rfl) ?_
  refine lv_iconst (v := 1) hx hb dL_law_524 (by decide) ?_
  refine lv_iadd hx hb dL_law_525 ?_
  refine va_sld hx hb hX hbl hbA G.2.2 h1 dL_law_526 ?_
  refine lwcMi (As := [.int (xs (iv + 1).toNatClampNeg)]) (rest := [.int r]) C0 F G (kX5_rooted l dC dI ad' cA' F.2.1 _ t (xs (iv + 1).toNatClampNeg) _ e2) (cwV 1 hts2 gL_law_X5_rooted rfl rfl rfl (by decide +kernel) ⟨Nat.le_of_ble_eq_true rfl, Nat.le_of_ble_eq_true rfl⟩) rfl hl.1 rfl (Nat.le_of_ble_eq_true rfl) dL_law_527 (fun H locs G => ?_)
  exact lv_icmp_eq (tgt := 736) hx hb dL_law_530 (by decide) (fun _ => kk _ _ _ _ G hRR) (fun hc => absurd rfl hc)
set_option maxHeartbeats 2000000 in
set_option maxRecDepth 20000 in
theorem lc_push (C0 : lw_At p s m meth cd b L xs) (hL : L ≤ 2048) (F : lw_F dC dI ad ad' cA cA' s) (hi : i + 4 ≤ L) (ei : iv = nI i) (G : lw_G dC dI ad ad' cA cA' s c t H locs) (hRR : RR c t) (hl : lv_has ls 4 [(0, .ref b), (1, .ref (ad 0)), (2, .ref (ad' 0)), (3, .int iv)]) (kk : ∀ (c t : HS) (H : Heap) (locs : List Loc), lw_G dC dI ad ad' cA cA' s c t H locs → RR c t → W p l e room_1 s m #[Value.ref b] below meth cd H locs 32 15704 (lw_Z below #[Value.ref b] s) (F0 m 736 ls [])) : W p l e room_1 s m #[Value.ref b] below meth cd H locs 32 15704 (lw_Z below #[Value.ref b] s) (F0 m 535 ls []) := by
  have hts2 := lw_ts C0
  have hx := C0.1
  have hb := C0.2.1
  have hX := C0.2.2.2.2.2.2.1
  have hbl := C0.2.2.2.2.2.2.2.1
  have hbA : ¬ (fun q : Nat => s.heap.size ≤ q) b := Nat.not_le.mpr hbl
  have h1 : vp_in (iv + 1) L := lw_in 1 hL hi ei (by decide)
  obtain ⟨r, c', t', e1, e2, hR3⟩ := op_push hRR (xs (iv + 1).toNatClampNeg)
  refine lv_aload_n hx hb dL_law_535 rfl (lv_at hl 1 rfl) ?_
  refine lv_aload_n hx hb dL_law_536 rfl (lv_at hl 0 rfl) ?_
  refine lv_iload_n hx hb dL_law_537 rfl (lv_at hl 3 rfl) ?_
  refine lv_iconst (v := 1) hx hb dL_law_538 (by decide) ?_
  refine lv_iadd hx hb dL_law_539 ?_
  refine va_sld hx hb hX hbl hbA G.2.2 h1 dL_law_540 ?_
  refine lwcCi (As := [.int (xs (iv + 1).toNatClampNeg)]) (rest := []) C0 F G (kX4_push l dC dI ad cA F.1 _ c (xs (iv + 1).toNatClampNeg) _ _ e1) (cwV 1 hts2 gL_law_X4_push rfl rfl rfl (by decide +kernel) ⟨Nat.le_of_ble_eq_true rfl, Nat.le_of_ble_eq_true rfl⟩) rfl hl.1 rfl (Nat.le_of_ble_eq_true rfl) dL_law_541 (fun H locs G => ?_)
  refine lv_aload_n hx hb dL_law_544 rfl (lv_at hl 2 rfl) ?_
  refine lv_aload_n hx hb dL_law_545 rfl (lv_at hl 0 rfl) ?_
  refine lv_iload_n hx hb dL_law_546 rfl (lv_at hl 3 rfl) ?_
  refine lv_iconst (v := 1) hx hb dL_law_547 (by decide) ?_
  refine lv_iadd hx hb dL_law_548 ?_
  refine va_sld hx hb hX hbl hbA G.2.2 h1 dL_law_549 ?_
  refine lwcMi (As := [.int (xs (iv + 1).toNatClampNeg)]) (rest := [.int r]) C0 F G (kX5_push l dC dI ad' cA' F.2.1 _ t (xs (iv + 1).toNatClampNeg) _ _ e2) (cwV 1 hts2 gL_law_X5_push rfl rfl rfl (by decide +kernel) ⟨Nat.le_of_ble_eq_true rfl, Nat.le_of_ble_eq_true rfl⟩) rfl hl.1 rfl (Nat.le_of_ble_eq_true rfl) dL_law_550 (fun H locs G => ?_)
  exact lv_icmp_eq (tgt := 736) hx hb dL_law_553 (by decide) (fun _ => kk _ _ _ _ G hR3) (fun hc => absurd rfl hc)
set_option maxHeartbeats 2000000 in
set_option maxRecDepth 20000 in
theorem lc_pop (C0 : lw_At p s m meth cd b L xs) (hL : L ≤ 2048) (F : lw_F dC dI ad ad' cA cA' s) (hi : i + 4 ≤ L) (ei : iv = nI i) (G : lw_G dC dI ad ad' cA cA' s c t H locs) (hRR : RR c t) (hl : lv_has ls 4 [(0, .ref b), (1, .ref (ad 0)), (2, .ref (ad' 0)), (3, .int iv)]) (kk : ∀ (c t : HS) (H : Heap) (locs : List Loc), lw_G dC dI ad ad' cA cA' s c t H locs → RR c t → W p l e room_1 s m #[Value.ref b] below meth cd H locs 32 15704 (lw_Z below #[Value.ref b] s) (F0 m 736 ls [])) : W p l e room_1 s m #[Value.ref b] below meth cd H locs 32 15704 (lw_Z below #[Value.ref b] s) (F0 m 558 ls []) := by
  have hts2 := lw_ts C0
  have hx := C0.1
  have hb := C0.2.1
  have hX := C0.2.2.2.2.2.2.1
  have hbl := C0.2.2.2.2.2.2.2.1
  have hbA : ¬ (fun q : Nat => s.heap.size ≤ q) b := Nat.not_le.mpr hbl
  obtain ⟨r, c', t', e1, e2, hR3⟩ := op_pop hRR
  refine lv_aload_n hx hb dL_law_558 rfl (lv_at hl 1 rfl) ?_
  refine lwcCi (As := []) (rest := []) C0 F G (kX4_pop l dC dI ad cA F.1 _ c  _ _ e1) (cwV 0 hts2 gL_law_X4_pop rfl rfl rfl (by decide +kernel) ⟨Nat.le_of_ble_eq_true rfl, Nat.le_of_ble_eq_true rfl⟩) rfl hl.1 rfl (Nat.le_of_ble_eq_true rfl) dL_law_559 (fun H locs G => ?_)
  refine lv_aload_n hx hb dL_law_562 rfl (lv_at hl 2 rfl) ?_
  refine lwcMi (As := []) (rest := [.int r]) C0 F G (kX5_pop l dC dI ad' cA' F.2.1 _ t  _ _ e2) (cwV 0 hts2 gL_law_X5_pop rfl rfl rfl (by decide +kernel) ⟨Nat.le_of_ble_eq_true rfl, Nat.le_of_ble_eq_true rfl⟩) rfl hl.1 rfl (Nat.le_of_ble_eq_true rfl) dL_law_563 (fun H locs G => ?_)
  exact lv_icmp_eq (tgt := 736) hx hb dL_law_566 (by decide) (fun _ => kk _ _ _ _ G hR3) (fun hc => absurd rfl hc)
set_option maxHeartbeats 2000000 in
set_option maxRecDepth 20000 in
theorem lc_top (C0 : lw_At p s m meth cd b L xs) (hL : L ≤ 2048) (F : lw_F dC dI ad ad' cA cA' s) (hi : i + 4 ≤ L) (ei : iv = nI i) (G : lw_G dC dI ad ad' cA cA' s c t H locs) (hRR : RR c t) (hl : lv_has ls 4 [(0, .ref b), (1, .ref (ad 0)), (2, .ref (ad' 0)), (3, .int iv)]) (kk : ∀ (c t : HS) (H : Heap) (locs : List Loc), lw_G dC dI ad ad' cA cA' s c t H locs → RR c t → W p l e room_1 s m #[Value.ref b] below meth cd H locs 32 15704 (lw_Z below #[Value.ref b] s) (F0 m 736 ls [])) : W p l e room_1 s m #[Value.ref b] below meth cd H locs 32 15704 (lw_Z below #[Value.ref b] s) (F0 m 571 ls []) := by
  have hts2 := lw_ts C0
  have hx := C0.1
  have hb := C0.2.1
  have hX := C0.2.2.2.2.2.2.1
  have hbl := C0.2.2.2.2.2.2.2.1
  have hbA : ¬ (fun q : Nat => s.heap.size ≤ q) b := Nat.not_le.mpr hbl
  have h1 : vp_in (iv + 1) L := lw_in 1 hL hi ei (by decide)
  obtain ⟨r, c', t', e1, e2, hR3⟩ := op_top hRR (xs (iv + 1).toNatClampNeg)
  refine lv_aload_n hx hb dL_law_571 rfl (lv_at hl 1 rfl) ?_
  refine lv_aload_n hx hb dL_law_572 rfl (lv_at hl 0 rfl) ?_
  refine lv_iload_n hx hb dL_law_573 rfl (lv_at hl 3 rfl) ?_
  refine lv_iconst (v := 1) hx hb dL_law_574 (by decide) ?_
  refine lv_iadd hx hb dL_law_575 ?_
  refine va_sld hx hb hX hbl hbA G.2.2 h1 dL_law_576 ?_
  refine lwcCi (As := [.int (xs (iv + 1).toNatClampNeg)]) (rest := []) C0 F G (kX4_top l dC dI ad cA F.1 _ c (xs (iv + 1).toNatClampNeg) _ _ e1) (cwV 1 hts2 gL_law_X4_top rfl rfl rfl (by decide +kernel) ⟨Nat.le_of_ble_eq_true rfl, Nat.le_of_ble_eq_true rfl⟩) rfl hl.1 rfl (Nat.le_of_ble_eq_true rfl) dL_law_577 (fun H locs G => ?_)
  refine lv_aload_n hx hb dL_law_580 rfl (lv_at hl 2 rfl) ?_
  refine lv_aload_n hx hb dL_law_581 rfl (lv_at hl 0 rfl) ?_
  refine lv_iload_n hx hb dL_law_582 rfl (lv_at hl 3 rfl) ?_
  refine lv_iconst (v := 1) hx hb dL_law_583 (by decide) ?_
  refine lv_iadd hx hb dL_law_584 ?_
  refine va_sld hx hb hX hbl hbA G.2.2 h1 dL_law_585 ?_
  refine lwcMi (As := [.int (xs (iv + 1).toNatClampNeg)]) (rest := [.int r]) C0 F G (kX5_top l dC dI ad' cA' F.2.1 _ t (xs (iv + 1).toNatClampNeg) _ _ e2) (cwV 1 hts2 gL_law_X5_top rfl rfl rfl (by decide +kernel) ⟨Nat.le_of_ble_eq_true rfl, Nat.le_of_ble_eq_true rfl⟩) rfl hl.1 rfl (Nat.le_of_ble_eq_true rfl) dL_law_586 (fun H locs G => ?_)
  exact lv_icmp_eq (tgt := 736) hx hb dL_law_589 (by decide) (fun _ => kk _ _ _ _ G hR3) (fun hc => absurd rfl hc)
set_option maxHeartbeats 2000000 in
set_option maxRecDepth 20000 in
theorem lc_minor (C0 : lw_At p s m meth cd b L xs) (hL : L ≤ 2048) (F : lw_F dC dI ad ad' cA cA' s) (hi : i + 4 ≤ L) (ei : iv = nI i) (G : lw_G dC dI ad ad' cA cA' s c t H locs) (hRR : RR c t) (hl : lv_has ls 4 [(0, .ref b), (1, .ref (ad 0)), (2, .ref (ad' 0)), (3, .int iv)]) (kk : ∀ (c t : HS) (H : Heap) (locs : List Loc), lw_G dC dI ad ad' cA cA' s c t H locs → RR c t → W p l e room_1 s m #[Value.ref b] below meth cd H locs 32 15704 (lw_Z below #[Value.ref b] s) (F0 m 736 ls [])) : W p l e room_1 s m #[Value.ref b] below meth cd H locs 32 15704 (lw_Z below #[Value.ref b] s) (F0 m 594 ls []) := by
  have hts2 := lw_ts C0
  have hx := C0.1
  have hb := C0.2.1
  have hX := C0.2.2.2.2.2.2.1
  have hbl := C0.2.2.2.2.2.2.2.1
  have hbA : ¬ (fun q : Nat => s.heap.size ≤ q) b := Nat.not_le.mpr hbl
  obtain ⟨r, c', t', e1, e2, hR3⟩ := op_minor hRR
  refine lv_aload_n hx hb dL_law_594 rfl (lv_at hl 1 rfl) ?_
  refine lwcCi (As := []) (rest := []) C0 F G (kX4_minor l dC dI ad cA F.1 _ c  _ _ e1) (cwV 0 hts2 gL_law_X4_minor rfl rfl rfl (by decide +kernel) ⟨Nat.le_of_ble_eq_true rfl, Nat.le_of_ble_eq_true rfl⟩) rfl hl.1 rfl (Nat.le_of_ble_eq_true rfl) dL_law_595 (fun H locs G => ?_)
  refine lv_aload_n hx hb dL_law_598 rfl (lv_at hl 2 rfl) ?_
  refine lwcMi (As := []) (rest := [.int r]) C0 F G (kX5_minor l dC dI ad' cA' F.2.1 _ t  _ _ e2) (cwV 0 hts2 gL_law_X5_minor rfl rfl rfl (by decide +kernel) ⟨Nat.le_of_ble_eq_true rfl, Nat.le_of_ble_eq_true rfl⟩) rfl hl.1 rfl (Nat.le_of_ble_eq_true rfl) dL_law_599 (fun H locs G => ?_)
  exact lv_icmp_eq (tgt := 736) hx hb dL_law_602 (by decide) (fun _ => kk _ _ _ _ G hR3) (fun hc => absurd rfl hc)
set_option maxHeartbeats 2000000 in
set_option maxRecDepth 20000 in
theorem lc_full (C0 : lw_At p s m meth cd b L xs) (hL : L ≤ 2048) (F : lw_F dC dI ad ad' cA cA' s) (hi : i + 4 ≤ L) (ei : iv = nI i) (G : lw_G dC dI ad ad' cA cA' s c t H locs) (hRR : RR c t) (hl : lv_has ls 4 [(0, .ref b), (1, .ref (ad 0)), (2, .ref (ad' 0)), (3, .int iv)]) (kk : ∀ (c t : HS) (H : Heap) (locs : List Loc), lw_G dC dI ad ad' cA cA' s c t H locs → RR c t → W p l e room_1 s m #[Value.ref b] below meth cd H locs 32 15704 (lw_Z below #[Value.ref b] s) (F0 m 736 ls [])) : W p l e room_1 s m #[Value.ref b] below meth cd H locs 32 15704 (lw_Z below #[Value.ref b] s) (F0 m 607 ls []) := by
  have hts2 := lw_ts C0
  have hx := C0.1
  have hb := C0.2.1
  have hX := C0.2.2.2.2.2.2.1
  have hbl := C0.2.2.2.2.2.2.2.1
  have hbA : ¬ (fun q : Nat => s.heap.size ≤ q) b := Nat.not_le.mpr hbl
  obtain ⟨r, c', t', e1, e2, hR3⟩ := op_full hRR
  refine lv_aload_n hx hb dL_law_607 rfl (lv_at hl 1 rfl) ?_
  refine lwcCi (As := []) (rest := []) C0 F G (kX4_full l dC dI ad cA F.1 _ c  _ _ e1) (cwV 0 hts2 gL_law_X4_full rfl rfl rfl (by decide +kernel) ⟨Nat.le_of_ble_eq_true rfl, Nat.le_of_ble_eq_true rfl⟩) rfl hl.1 rfl (Nat.le_of_ble_eq_true rfl) dL_law_608 (fun H locs G => ?_)
  refine lv_aload_n hx hb dL_law_611 rfl (lv_at hl 2 rfl) ?_
  refine lwcMi (As := []) (rest := [.int r]) C0 F G (kX5_full l dC dI ad' cA' F.2.1 _ t  _ _ e2) (cwV 0 hts2 gL_law_X5_full rfl rfl rfl (by decide +kernel) ⟨Nat.le_of_ble_eq_true rfl, Nat.le_of_ble_eq_true rfl⟩) rfl hl.1 rfl (Nat.le_of_ble_eq_true rfl) dL_law_612 (fun H locs G => ?_)
  exact lv_icmp_eq (tgt := 736) hx hb dL_law_615 (by decide) (fun _ => kk _ _ _ _ G hR3) (fun hc => absurd rfl hc)
set_option maxHeartbeats 2000000 in
set_option maxRecDepth 20000 in
theorem lc_logged (C0 : lw_At p s m meth cd b L xs) (hL : L ≤ 2048) (F : lw_F dC dI ad ad' cA cA' s) (hi : i + 4 ≤ L) (ei : iv = nI i) (G : lw_G dC dI ad ad' cA cA' s c t H locs) (hRR : RR c t) (hl : lv_has ls 4 [(0, .ref b), (1, .ref (ad 0)), (2, .ref (ad' 0)), (3, .int iv)]) (kk : ∀ (c t : HS) (H : Heap) (locs : List Loc), lw_G dC dI ad ad' cA cA' s c t H locs → RR c t → W p l e room_1 s m #[Value.ref b] below meth cd H locs 32 15704 (lw_Z below #[Value.ref b] s) (F0 m 736 ls [])) : W p l e room_1 s m #[Value.ref b] below meth cd H locs 32 15704 (lw_Z below #[Value.ref b] s) (F0 m 620 ls []) := by
  have hts2 := lw_ts C0
  have hx := C0.1
  have hb := C0.2.1
  have hX := C0.2.2.2.2.2.2.1
  have hbl := C0.2.2.2.2.2.2.2.1
  have hbA : ¬ (fun q : Nat => s.heap.size ≤ q) b := Nat.not_le.mpr hbl
  have h1 : vp_in (iv + 1) L := lw_in 1 hL hi ei (by decide)
  obtain ⟨r, e1, e2⟩ := op_logged hRR (xs (iv + 1).toNatClampNeg)
  refine lv_aload_n hx hb dL_law_620 rfl (lv_at hl 1 rfl) ?_
  refine lv_aload_n hx hb dL_law_621 rfl (lv_at hl 0 rfl) ?_
  refine lv_iload_n hx hb dL_law_622 rfl (lv_at hl 3 rfl) ?_
  refine lv_iconst (v := 1) hx hb dL_law_623 (by decide) ?_
  refine lv_iadd hx hb dL_law_624 ?_
  refine va_sld hx hb hX hbl hbA G.2.2 h1 dL_law_625 ?_
  refine lwcCi (As := [.int (xs (iv + 1).toNatClampNeg)]) (rest := []) C0 F G (kX4_logged l dC dI ad cA F.1 _ c (xs (iv + 1).toNatClampNeg) _ e1) (cwV 1 hts2 gL_law_X4_logged rfl rfl rfl (by decide +kernel) ⟨Nat.le_of_ble_eq_true rfl, Nat.le_of_ble_eq_true rfl⟩) rfl hl.1 rfl (Nat.le_of_ble_eq_true rfl) dL_law_626 (fun H locs G => ?_)
  refine lv_aload_n hx hb dL_law_629 rfl (lv_at hl 2 rfl) ?_
  refine lv_aload_n hx hb dL_law_630 rfl (lv_at hl 0 rfl) ?_
  refine lv_iload_n hx hb dL_law_631 rfl (lv_at hl 3 rfl) ?_
  refine lv_iconst (v := 1) hx hb dL_law_632 (by decide) ?_
  refine lv_iadd hx hb dL_law_633 ?_
  refine va_sld hx hb hX hbl hbA G.2.2 h1 dL_law_634 ?_
  refine lwcMi (As := [.int (xs (iv + 1).toNatClampNeg)]) (rest := [.int r]) C0 F G (kX5_logged l dC dI ad' cA' F.2.1 _ t (xs (iv + 1).toNatClampNeg) _ e2) (cwV 1 hts2 gL_law_X5_logged rfl rfl rfl (by decide +kernel) ⟨Nat.le_of_ble_eq_true rfl, Nat.le_of_ble_eq_true rfl⟩) rfl hl.1 rfl (Nat.le_of_ble_eq_true rfl) dL_law_635 (fun H locs G => ?_)
  exact lv_icmp_eq (tgt := 736) hx hb dL_law_638 (by decide) (fun _ => kk _ _ _ _ G hRR) (fun hc => absurd rfl hc)
set_option maxHeartbeats 2000000 in
set_option maxRecDepth 20000 in
theorem lc_block (C0 : lw_At p s m meth cd b L xs) (hL : L ≤ 2048) (F : lw_F dC dI ad ad' cA cA' s) (hi : i + 4 ≤ L) (ei : iv = nI i) (G : lw_G dC dI ad ad' cA cA' s c t H locs) (hRR : RR c t) (hl : lv_has ls 4 [(0, .ref b), (1, .ref (ad 0)), (2, .ref (ad' 0)), (3, .int iv)]) (kk : ∀ (c t : HS) (H : Heap) (locs : List Loc), lw_G dC dI ad ad' cA cA' s c t H locs → RR c t → W p l e room_1 s m #[Value.ref b] below meth cd H locs 32 15704 (lw_Z below #[Value.ref b] s) (F0 m 736 ls [])) : W p l e room_1 s m #[Value.ref b] below meth cd H locs 32 15704 (lw_Z below #[Value.ref b] s) (F0 m 643 ls []) := by
  have hts2 := lw_ts C0
  have hx := C0.1
  have hb := C0.2.1
  have hX := C0.2.2.2.2.2.2.1
  have hbl := C0.2.2.2.2.2.2.2.1
  have hbA : ¬ (fun q : Nat => s.heap.size ≤ q) b := Nat.not_le.mpr hbl
  have h1 : vp_in (iv + 1) L := lw_in 1 hL hi ei (by decide)
  have h2 : vp_in (iv + 2) L := lw_in 2 hL hi ei (by decide)
  obtain ⟨r, e1, e2⟩ := op_block hRR (xs (iv + 1).toNatClampNeg) (xs (iv + 2).toNatClampNeg)
  refine lv_aload_n hx hb dL_law_643 rfl (lv_at hl 1 rfl) ?_
  refine lv_aload_n hx hb dL_law_644 rfl (lv_at hl 0 rfl) ?_
  refine lv_iload_n hx hb dL_law_645 rfl (lv_at hl 3 rfl) ?_
  refine lv_iconst (v := 1) hx hb dL_law_646 (by decide) ?_
  refine lv_iadd hx hb dL_law_647 ?_
  refine va_sld hx hb hX hbl hbA G.2.2 h1 dL_law_648 ?_
  refine lv_aload_n hx hb dL_law_649 rfl (lv_at hl 0 rfl) ?_
  refine lv_iload_n hx hb dL_law_650 rfl (lv_at hl 3 rfl) ?_
  refine lv_iconst (v := 2) hx hb dL_law_651 (by decide) ?_
  refine lv_iadd hx hb dL_law_652 ?_
  refine va_sld hx hb hX hbl hbA G.2.2 h2 dL_law_653 ?_
  refine lwcCi (As := [.int (xs (iv + 1).toNatClampNeg), .int (xs (iv + 2).toNatClampNeg)]) (rest := []) C0 F G (kX4_block l dC dI ad cA F.1 _ c (xs (iv + 1).toNatClampNeg) (xs (iv + 2).toNatClampNeg) _ e1) (cwV 2 hts2 gL_law_X4_block rfl rfl rfl (by decide +kernel) ⟨Nat.le_of_ble_eq_true rfl, Nat.le_of_ble_eq_true rfl⟩) rfl hl.1 rfl (Nat.le_of_ble_eq_true rfl) dL_law_654 (fun H locs G => ?_)
  refine lv_aload_n hx hb dL_law_657 rfl (lv_at hl 2 rfl) ?_
  refine lv_aload_n hx hb dL_law_658 rfl (lv_at hl 0 rfl) ?_
  refine lv_iload_n hx hb dL_law_659 rfl (lv_at hl 3 rfl) ?_
  refine lv_iconst (v := 1) hx hb dL_law_660 (by decide) ?_
  refine lv_iadd hx hb dL_law_661 ?_
  refine va_sld hx hb hX hbl hbA G.2.2 h1 dL_law_662 ?_
  refine lv_aload_n hx hb dL_law_663 rfl (lv_at hl 0 rfl) ?_
  refine lv_iload_n hx hb dL_law_664 rfl (lv_at hl 3 rfl) ?_
  refine lv_iconst (v := 2) hx hb dL_law_665 (by decide) ?_
  refine lv_iadd hx hb dL_law_666 ?_
  refine va_sld hx hb hX hbl hbA G.2.2 h2 dL_law_667 ?_
  refine lwcMi (As := [.int (xs (iv + 1).toNatClampNeg), .int (xs (iv + 2).toNatClampNeg)]) (rest := [.int r]) C0 F G (kX5_block l dC dI ad' cA' F.2.1 _ t (xs (iv + 1).toNatClampNeg) (xs (iv + 2).toNatClampNeg) _ e2) (cwV 2 hts2 gL_law_X5_block rfl rfl rfl (by decide +kernel) ⟨Nat.le_of_ble_eq_true rfl, Nat.le_of_ble_eq_true rfl⟩) rfl hl.1 rfl (Nat.le_of_ble_eq_true rfl) dL_law_668 (fun H locs G => ?_)
  exact lv_icmp_eq (tgt := 736) hx hb dL_law_671 (by decide) (fun _ => kk _ _ _ _ G hRR) (fun hc => absurd rfl hc)
set_option maxHeartbeats 2000000 in
set_option maxRecDepth 20000 in
theorem lc_room (C0 : lw_At p s m meth cd b L xs) (hL : L ≤ 2048) (F : lw_F dC dI ad ad' cA cA' s) (hi : i + 4 ≤ L) (ei : iv = nI i) (G : lw_G dC dI ad ad' cA cA' s c t H locs) (hRR : RR c t) (hl : lv_has ls 4 [(0, .ref b), (1, .ref (ad 0)), (2, .ref (ad' 0)), (3, .int iv)]) (kk : ∀ (c t : HS) (H : Heap) (locs : List Loc), lw_G dC dI ad ad' cA cA' s c t H locs → RR c t → W p l e room_1 s m #[Value.ref b] below meth cd H locs 32 15704 (lw_Z below #[Value.ref b] s) (F0 m 736 ls [])) : W p l e room_1 s m #[Value.ref b] below meth cd H locs 32 15704 (lw_Z below #[Value.ref b] s) (F0 m 676 ls []) := by
  have hts2 := lw_ts C0
  have hx := C0.1
  have hb := C0.2.1
  have hX := C0.2.2.2.2.2.2.1
  have hbl := C0.2.2.2.2.2.2.2.1
  have hbA : ¬ (fun q : Nat => s.heap.size ≤ q) b := Nat.not_le.mpr hbl
  have h1 : vp_in (iv + 1) L := lw_in 1 hL hi ei (by decide)
  obtain ⟨r, e1, e2⟩ := op_room hRR (xs (iv + 1).toNatClampNeg)
  refine lv_aload_n hx hb dL_law_676 rfl (lv_at hl 1 rfl) ?_
  refine lv_aload_n hx hb dL_law_677 rfl (lv_at hl 0 rfl) ?_
  refine lv_iload_n hx hb dL_law_678 rfl (lv_at hl 3 rfl) ?_
  refine lv_iconst (v := 1) hx hb dL_law_679 (by decide) ?_
  refine lv_iadd hx hb dL_law_680 ?_
  refine va_sld hx hb hX hbl hbA G.2.2 h1 dL_law_681 ?_
  refine lwcCi (As := [.int (xs (iv + 1).toNatClampNeg)]) (rest := []) C0 F G (kX4_room l dC dI ad cA F.1 _ c (xs (iv + 1).toNatClampNeg) _ e1) (cwV 1 hts2 gL_law_X4_room rfl rfl rfl (by decide +kernel) ⟨Nat.le_of_ble_eq_true rfl, Nat.le_of_ble_eq_true rfl⟩) rfl hl.1 rfl (Nat.le_of_ble_eq_true rfl) dL_law_682 (fun H locs G => ?_)
  refine lv_aload_n hx hb dL_law_685 rfl (lv_at hl 2 rfl) ?_
  refine lv_aload_n hx hb dL_law_686 rfl (lv_at hl 0 rfl) ?_
  refine lv_iload_n hx hb dL_law_687 rfl (lv_at hl 3 rfl) ?_
  refine lv_iconst (v := 1) hx hb dL_law_688 (by decide) ?_
  refine lv_iadd hx hb dL_law_689 ?_
  refine va_sld hx hb hX hbl hbA G.2.2 h1 dL_law_690 ?_
  refine lwcMi (As := [.int (xs (iv + 1).toNatClampNeg)]) (rest := [.int r]) C0 F G (kX5_room l dC dI ad' cA' F.2.1 _ t (xs (iv + 1).toNatClampNeg) _ e2) (cwV 1 hts2 gL_law_X5_room rfl rfl rfl (by decide +kernel) ⟨Nat.le_of_ble_eq_true rfl, Nat.le_of_ble_eq_true rfl⟩) rfl hl.1 rfl (Nat.le_of_ble_eq_true rfl) dL_law_691 (fun H locs G => ?_)
  exact lv_icmp_eq (tgt := 736) hx hb dL_law_694 (by decide) (fun _ => kk _ _ _ _ G hRR) (fun hc => absurd rfl hc)
set_option maxHeartbeats 2000000 in
set_option maxRecDepth 20000 in
theorem lc_count (C0 : lw_At p s m meth cd b L xs) (hL : L ≤ 2048) (F : lw_F dC dI ad ad' cA cA' s) (hi : i + 4 ≤ L) (ei : iv = nI i) (G : lw_G dC dI ad ad' cA cA' s c t H locs) (hRR : RR c t) (hl : lv_has ls 4 [(0, .ref b), (1, .ref (ad 0)), (2, .ref (ad' 0)), (3, .int iv)]) (kk : ∀ (c t : HS) (H : Heap) (locs : List Loc), lw_G dC dI ad ad' cA cA' s c t H locs → RR c t → W p l e room_1 s m #[Value.ref b] below meth cd H locs 32 15704 (lw_Z below #[Value.ref b] s) (F0 m 736 ls [])) : W p l e room_1 s m #[Value.ref b] below meth cd H locs 32 15704 (lw_Z below #[Value.ref b] s) (F0 m 699 ls []) := by
  have hts2 := lw_ts C0
  have hx := C0.1
  have hb := C0.2.1
  have hX := C0.2.2.2.2.2.2.1
  have hbl := C0.2.2.2.2.2.2.2.1
  have hbA : ¬ (fun q : Nat => s.heap.size ≤ q) b := Nat.not_le.mpr hbl
  have h1 : vp_in (iv + 1) L := lw_in 1 hL hi ei (by decide)
  obtain ⟨r, e1, e2⟩ := op_count hRR (xs (iv + 1).toNatClampNeg)
  refine lv_aload_n hx hb dL_law_699 rfl (lv_at hl 1 rfl) ?_
  refine lv_aload_n hx hb dL_law_700 rfl (lv_at hl 0 rfl) ?_
  refine lv_iload_n hx hb dL_law_701 rfl (lv_at hl 3 rfl) ?_
  refine lv_iconst (v := 1) hx hb dL_law_702 (by decide) ?_
  refine lv_iadd hx hb dL_law_703 ?_
  refine va_sld hx hb hX hbl hbA G.2.2 h1 dL_law_704 ?_
  refine lwcCi (As := [.int (xs (iv + 1).toNatClampNeg)]) (rest := []) C0 F G (kX4_count l dC dI ad cA F.1 _ c (xs (iv + 1).toNatClampNeg) _ e1) (cwV 1 hts2 gL_law_X4_count rfl rfl rfl (by decide +kernel) ⟨Nat.le_of_ble_eq_true rfl, Nat.le_of_ble_eq_true rfl⟩) rfl hl.1 rfl (Nat.le_of_ble_eq_true rfl) dL_law_705 (fun H locs G => ?_)
  refine lv_aload_n hx hb dL_law_708 rfl (lv_at hl 2 rfl) ?_
  refine lv_aload_n hx hb dL_law_709 rfl (lv_at hl 0 rfl) ?_
  refine lv_iload_n hx hb dL_law_710 rfl (lv_at hl 3 rfl) ?_
  refine lv_iconst (v := 1) hx hb dL_law_711 (by decide) ?_
  refine lv_iadd hx hb dL_law_712 ?_
  refine va_sld hx hb hX hbl hbA G.2.2 h1 dL_law_713 ?_
  refine lwcMi (As := [.int (xs (iv + 1).toNatClampNeg)]) (rest := [.int r]) C0 F G (kX5_count l dC dI ad' cA' F.2.1 _ t (xs (iv + 1).toNatClampNeg) _ e2) (cwV 1 hts2 gL_law_X5_count rfl rfl rfl (by decide +kernel) ⟨Nat.le_of_ble_eq_true rfl, Nat.le_of_ble_eq_true rfl⟩) rfl hl.1 rfl (Nat.le_of_ble_eq_true rfl) dL_law_714 (fun H locs G => ?_)
  exact lv_icmp_eq (tgt := 736) hx hb dL_law_717 (by decide) (fun _ => kk _ _ _ _ G hRR) (fun hc => absurd rfl hc)
set_option maxHeartbeats 2000000 in
set_option maxRecDepth 20000 in
theorem lc_digest (C0 : lw_At p s m meth cd b L xs) (hL : L ≤ 2048) (F : lw_F dC dI ad ad' cA cA' s) (hi : i + 4 ≤ L) (ei : iv = nI i) (G : lw_G dC dI ad ad' cA cA' s c t H locs) (hRR : RR c t) (hl : lv_has ls 4 [(0, .ref b), (1, .ref (ad 0)), (2, .ref (ad' 0)), (3, .int iv)]) (kk : ∀ (c t : HS) (H : Heap) (locs : List Loc), lw_G dC dI ad ad' cA cA' s c t H locs → RR c t → W p l e room_1 s m #[Value.ref b] below meth cd H locs 32 15704 (lw_Z below #[Value.ref b] s) (F0 m 736 ls [])) : W p l e room_1 s m #[Value.ref b] below meth cd H locs 32 15704 (lw_Z below #[Value.ref b] s) (F0 m 722 ls []) := by
  have hts2 := lw_ts C0
  have hx := C0.1
  have hb := C0.2.1
  have hX := C0.2.2.2.2.2.2.1
  have hbl := C0.2.2.2.2.2.2.2.1
  have hbA : ¬ (fun q : Nat => s.heap.size ≤ q) b := Nat.not_le.mpr hbl
  obtain ⟨r, t', e1, e2, hR3⟩ := op_digest hRR
  refine lv_aload_n hx hb dL_law_722 rfl (lv_at hl 1 rfl) ?_
  refine lwcCl (As := []) (rest := []) C0 F G (kX4_digest l dC dI ad cA F.1 _ c  _ e1) (cwV 0 hts2 gL_law_X4_digest rfl rfl rfl (by decide +kernel) ⟨Nat.le_of_ble_eq_true rfl, Nat.le_of_ble_eq_true rfl⟩) rfl hl.1 rfl (Nat.le_of_ble_eq_true rfl) dL_law_723 (fun H locs G => ?_)
  refine lv_aload_n hx hb dL_law_726 rfl (lv_at hl 2 rfl) ?_
  refine lwcMl (As := []) (rest := [.long r]) C0 F G (kX5_digest l dC dI ad' cA' F.2.1 _ t  _ _ e2) (cwV 0 hts2 gL_law_X5_digest rfl rfl rfl (by decide +kernel) ⟨Nat.le_of_ble_eq_true rfl, Nat.le_of_ble_eq_true rfl⟩) rfl hl.1 rfl (Nat.le_of_ble_eq_true rfl) dL_law_727 (fun H locs G => ?_)
  refine W.lcmp hx hb dL_law_730 ?_
  exact lv_if_eq (tgt := 736) hx hb dL_law_731 (by decide) (fun _ => kk _ _ _ _ G hR3) (fun hc => absurd (by simp [lg_cmp]) hc)
end LAWC
