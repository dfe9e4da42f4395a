/-! THE CLAIM OUT OF ONE WALK OF THE LAW'S BODY. Your part is whole_start (and what it stands on); all else here is the same for every law, but numbers. -/
def R_law : String := "StickyHeapLaw"
def lw_P (b : Addr) (xs : List Int32) (args : Array Value) (s : State) : Prop := args = #[.ref b] ∧ s.IntsAt b xs ∧ xs.length ≤ 2048 ∧ (Jvm.Cond.and given_1 narrow_1).before args s = true
def lw_Q (_ : Array Value) (s : State) (o : Outcome) (t : State) : Prop := o = .returned (some (.int 1)) ∧ Framed s o t [] 32 15704
def lw_Z (below : List Frame) (a : Array Value) (s : State) : State → Prop := fun t => ∃ o, t.status = .running ∧ Ended t below o ∧ lw_Q a s o t
/-- the law's own end, with 1 on the stack, nothing written that was there before, its room as the claim has it -/
theorem lw_ret {p : Program} {l : Launch} {e : Env} {s : State} {m : MethodId} {below : List Frame} {meth : Method} {c : Code} {b : Nat} (hx : p.tables.exec = Jvm.exec) (hb : c.code = code) (hr : meth.sig.returnType = ret) (hlocks : meth.locks = false) {pc : Nat} {H : Heap} {ls : Array Slot} (hdg : decode code pc = .ok (.ireturn, 1)) : W p l e room_1 s m #[Value.ref b] below meth c H [] 32 15704 (lw_Z below #[Value.ref b] s) (F0 m pc ls [.int 1]) := by
  intro T hT X
  obtain ⟨fs, hret, hrun, hended, hW, hframe⟩ := X.leave (v := some (.int 1)) (hlocks := hlocks) (fun h => by rw [hr] at h; cases h)
  have hmeth' : T.vm.method? m = some meth := X.method'
  refine ⟨T.setFrames fs, ?_, .returned (some (.int 1)), hrun, hended, rfl, ⟨_, rfl⟩, hW, hframe⟩
  jvm_step X.here [X.here.top, hx, hb, hdg, hmeth', hr, ret, narrow_b1]
  (try refine ⟨rfl, ?_⟩); (try refine ⟨rfl, ?_⟩)
  first | (intro acts; rw [hret _ acts rfl rfl rfl]) | rw [hret _ _ rfl rfl rfl]
  exact Steps.refl _
/-- what holds at the law's entry: the machine, the code, the tables' words (any of lw_tbl by 'hts w (by decide +kernel)'), the script of L ints xs at the cell b, what the Statement gives of the start (any of its parts by flat_of_before) -/
def lw_At (p : Program) (s : State) (m : MethodId) (meth : Method) (c : Code) (b L : Nat) (xs : Nat → Int32) : Prop :=
  p.tables.exec = Jvm.exec ∧ c.code = code ∧ meth.sig.returnType = ret ∧ c.maxLocals = 4 ∧ s.vm.findClass R_law = some m.cls ∧ (∀ w ∈ lw_tbl, w.before #[Value.ref b] s = true) ∧ va_X b L xs s s.heap ∧ b < s.heap.size ∧ meth.locks = false ∧ (Jvm.Cond.and given_1 narrow_1).before #[Value.ref b] s = true

theorem bgn_RR : RR bgnC bgnM := by
  have h01 : ¬ (0 : Int32) = 1 := by decide
  have h02 : ¬ (0 : Int32) = 2 := by decide
  have h03 : ¬ (0 : Int32) = 3 := by decide
  refine ⟨8, ⟨⟨by omega, by omega, rfl, rfl⟩, fun k _ => Or.inl ⟨rfl, rfl⟩, fun k _ => ⟨rfl, rfl⟩, fun b _ => ⟨rfl, rfl, rfl⟩, fun b _ => ⟨fun h => absurd h h01, fun h => absurd h h02, fun _ => rfl⟩, fun a _ => rfl, fun i _ => rfl, fun i _ => rfl, fun i _ => rfl, ⟨rfl, rfl, rfl, rfl, rfl, rfl, rfl, rfl, rfl, rfl, rfl⟩⟩, ⟨⟨by omega, by omega, rfl⟩, fun b _ => ⟨Or.inl rfl, fun _ => rfl, fun _ => rfl⟩, fun a _ => ⟨Or.inl rfl, Or.inl rfl⟩, fun b _ => ⟨Or.inl rfl, Or.inl rfl⟩, fun a _ h => absurd h h01, fun b _ h => absurd h h01, fun b _ h => absurd h h02, fun b _ h => absurd h h03⟩, fun a r i _ h => absurd h h01, fun i hi => Or.inl (hf_lt hi), fun a r i y _ h => absurd h h01, ⟨Or.inl rfl, Or.inl rfl, Or.inr rfl, ⟨0, by omega, rfl⟩, ⟨0, by omega, rfl⟩⟩⟩
theorem at_ad {ws : va_W} {N : Nat} {ad : Nat → Nat} (hw : ws.map (fun q => q.1) = (List.range N).map ad) {k : Nat} {q : Nat × va_E} (hq : ws[k]? = some q) : k < N ∧ q.1 = ad k := by
  have h1 : (ws.map (fun q => q.1))[k]? = some q.1 := by rw [List.getElem?_map, hq]; rfl
  rw [hw, List.getElem?_map] at h1
  by_cases hk : k < N
  · rw [List.getElem?_range hk] at h1
    exact ⟨hk, (Option.some.inj h1).symm⟩
  · rw [List.getElem?_eq_none (by rw [List.length_range]; omega)] at h1
    cases h1
theorem two_keep {D : va_G} {ws2 : va_W} {N : Nat} {ad : Nat → Nat} {H H1 : Heap} (h : va_P D vwCl ws2 H) (hk : ∀ q : Nat, q < H.size → ¬ fA N ad H.size q → H1[q]? = H[q]?) (hd : ∀ (k : Nat) (q : Nat × va_E), ws2[k]? = some q → ∀ j, j < N → q.1 ≠ ad j) : va_P D vwCl ws2 H1 := by
  refine h.kept (fun k q hq => hk q.1 (h k q hq).lt (fun hf => ?_))
  rcases hf with ⟨j, hj, e⟩ | h2
  · exact hd k q hq j hj e
  · exact absurd (h k q hq).lt (Nat.not_lt.mpr h2)
theorem lpc {i L : Nat} (hi : i ≤ 4000) (hL : L ≤ 2048) (h : ¬ nI L - 4 < nI i) : i + 4 ≤ L := by
  by_cases h4 : 4 ≤ L
  · obtain ⟨k, rfl⟩ : ∃ k, L = k + 4 := ⟨L - 4, by omega⟩
    have e : nI (k + 4) - 4 = nI k := by
      rw [← nI_add k 4]
      exact Int32.add_sub_cancel (nI k) 4
    rw [e] at h
    by_cases hk : k < i
    · exact absurd (nI_lt hk (by omega)) h
    · omega
  · refine absurd ?_ h
    refine Int32.lt_iff_toInt_lt.mpr ?_
    rw [nI_toInt (by omega)]
    have h0 : (nI L - 4).toInt < 0 := by
      rcases (show L = 0 ∨ L = 1 ∨ L = 2 ∨ L = 3 by omega) with rfl | rfl | rfl | rfl <;> decide
    omega
section LAW
variable {p : Program} {l : Launch} {e : Env} {s : State} {m : MethodId} {below : List Frame} {meth : Method} {cd : Code} {dC : Nat → ClassId} {dI : Nat → Nat → Nat} {b L i : Nat} {xs : Nat → Int32} {ad ad' : Nat → Nat} {cA cA' : Nat → ClassId} {iv : Int32} {c t c1 : HS} {H : Heap} {locs : List Loc} {ls : Array Slot}
def lw_F (dC : Nat → ClassId) (dI : Nat → Nat → Nat) (ad ad' : Nat → Nat) (cA cA' : Nat → ClassId) (s : State) : Prop := apart 17 ad ∧ apart 15 ad' ∧ (∀ i j, i < 17 → j < 15 → ad i ≠ ad' j) ∧ (∀ k, k < 17 → s.heap.size ≤ ad k) ∧ (∀ k, k < 15 → s.heap.size ≤ ad' k) ∧ kC (dC, dI) cA s ∧ kM (dC, dI) cA' s
def lw_G (dC : Nat → ClassId) (dI : Nat → Nat → Nat) (ad ad' : Nat → Nat) (cA cA' : Nat → ClassId) (s : State) (c t : HS) (H : Heap) (locs : List Loc) : Prop := va_P (dC, dI) vwCl (wC ad cA c) H ∧ va_P (dC, dI) vwCl (wM ad' cA' t) H ∧ va_S (fun q : Nat => s.heap.size ≤ q) s.heap H locs
theorem lw_ts (C0 : lw_At p s m meth cd b L xs) : ∀ w ∈ wsL_law, w.before #[Value.ref b] s = true := fun w h => C0.2.2.2.2.2.1 w (wsL_law_in w h)
theorem lw_in (k : Nat) (hL : L ≤ 2048) (hi : i + 4 ≤ L) (ei : iv = nI i) (hk : k < 4) : vp_in (iv + nI k) L := by
  rw [ei, nI_add]
  exact vp_in_nI (by omega) (by omega)
variable {y : MethodName} {ws : List Cond} {rm : Room} {index maxL n pc : Nat} {bytes : ByteArray} {ret9 : Option FieldType} {As rest st : List Value}

set_option maxHeartbeats 1000000 in
theorem lwcCi {r0 : Int32} (C0 : lw_At p s m meth cd b L xs) (F : lw_F dC dI ad ad' cA cA' s) (G : lw_G dC dI ad ad' cA cA' s c t H locs) (hM : Met l y ws rm (gP (dC, dI) (wC ad cA) (kC (dC, dI) cA) c H.size (.ref (ad 0) :: As)) (gQi (dC, dI) (wC ad cA) (fA 17 ad H.size) r0 c1) 0 0 (fA 17 ad H.size)) (cw : CallW room_1 s #[Value.ref b] RL RX4 index y bytes maxL ret9 ws rm 0 0 n) (hn : As.length = n) (hls : ls.size = 4) (hstack : st = As.reverse ++ .ref (ad 0) :: rest) (hW : (rest.map fun v => v.category).sum ≤ 8) (hdg : decode cL_law pc = .ok (.invokevirtual index, 3))
    (kk : ∀ (H1 : Heap) (locs1 : List Loc), lw_G dC dI ad ad' cA cA' s c1 t H1 locs1 → W p l e room_1 s m #[Value.ref b] below meth cd H1 locs1 32 15704 (lw_Z below #[Value.ref b] s) (F0 m (pc + 3) ls (.int r0 :: rest))) : W p l e room_1 s m #[Value.ref b] below meth cd H locs 32 15704 (lw_Z below #[Value.ref b] s) (F0 m pc ls st) := by
  have hts2 := lw_ts C0
  obtain ⟨hx, hb, hr, hml, hown, hts, hX, hbl, hlocks, hgv⟩ := C0
  obtain ⟨hap, hap', hsep, hAd, hAd', hKC, hKM⟩ := F
  obtain ⟨hP, hP2, hS⟩ := G
  have hf : ∀ q, fA 17 ad H.size q → s.heap.size ≤ q := by
    intro q h
    rcases h with ⟨k, hk, e9⟩ | h2
    · rw [e9]; exact hAd k hk
    · exact Nat.le_trans hS.1 h2
  refine va_calli (gV (Ts := wsL_law) ⟨hx, hb, hml, hown, hts2⟩ hM cw (kC_st _ _) hKC hP (va_recv hKC.1 hP (ci := 4) (q0 := 0) rfl rfl) hn hls hstack hW hdg ⟨by decide, by decide⟩) hS (fun q _ h => hf q h) hf (fun r u t9 H1 locs1 ht hvm hw hB hz hk1 hS1 => ?_)
  obtain ⟨rfl, rfl⟩ := hw
  have h1 : va_P (dC, dI) vwCl (wC ad cA u) H1 := by rw [← ht]; exact hB
  have h2 := two_keep hP2 hk1 (fun k q hq j hj e9 => by
    obtain ⟨hk, e2⟩ := at_ad (N := 15) (ad := ad') rfl hq
    exact hsep j k hj hk (by rw [← e9, e2]))
  have h3 := hS1
  exact kk H1 locs1 ⟨h1, h2, h3⟩

set_option maxHeartbeats 1000000 in
theorem lwcCl {r0 : Int64} (C0 : lw_At p s m meth cd b L xs) (F : lw_F dC dI ad ad' cA cA' s) (G : lw_G dC dI ad ad' cA cA' s c t H locs) (hM : Met l y ws rm (gP (dC, dI) (wC ad cA) (kC (dC, dI) cA) c H.size (.ref (ad 0) :: As)) (gQl (dC, dI) (wC ad cA) (fA 17 ad H.size) r0 c1) 0 0 (fA 17 ad H.size)) (cw : CallW room_1 s #[Value.ref b] RL RX4 index y bytes maxL ret9 ws rm 0 0 n) (hn : As.length = n) (hls : ls.size = 4) (hstack : st = As.reverse ++ .ref (ad 0) :: rest) (hW : (rest.map fun v => v.category).sum ≤ 8) (hdg : decode cL_law pc = .ok (.invokevirtual index, 3))
    (kk : ∀ (H1 : Heap) (locs1 : List Loc), lw_G dC dI ad ad' cA cA' s c1 t H1 locs1 → W p l e room_1 s m #[Value.ref b] below meth cd H1 locs1 32 15704 (lw_Z below #[Value.ref b] s) (F0 m (pc + 3) ls (.long r0 :: rest))) : W p l e room_1 s m #[Value.ref b] below meth cd H locs 32 15704 (lw_Z below #[Value.ref b] s) (F0 m pc ls st) := by
  have hts2 := lw_ts C0
  obtain ⟨hx, hb, hr, hml, hown, hts, hX, hbl, hlocks, hgv⟩ := C0
  obtain ⟨hap, hap', hsep, hAd, hAd', hKC, hKM⟩ := F
  obtain ⟨hP, hP2, hS⟩ := G
  have hf : ∀ q, fA 17 ad H.size q → s.heap.size ≤ q := by
    intro q h
    rcases h with ⟨k, hk, e9⟩ | h2
    · rw [e9]; exact hAd k hk
    · exact Nat.le_trans hS.1 h2
  refine va_calll (gV (Ts := wsL_law) ⟨hx, hb, hml, hown, hts2⟩ hM cw (kC_st _ _) hKC hP (va_recv hKC.1 hP (ci := 4) (q0 := 0) rfl rfl) hn hls hstack hW hdg ⟨by decide, by decide⟩) hS (fun q _ h => hf q h) hf (fun r u t9 H1 locs1 ht hvm hw hB hz hk1 hS1 => ?_)
  obtain ⟨rfl, rfl⟩ := hw
  have h1 : va_P (dC, dI) vwCl (wC ad cA u) H1 := by rw [← ht]; exact hB
  have h2 := two_keep hP2 hk1 (fun k q hq j hj e9 => by
    obtain ⟨hk, e2⟩ := at_ad (N := 15) (ad := ad') rfl hq
    exact hsep j k hj hk (by rw [← e9, e2]))
  have h3 := hS1
  exact kk H1 locs1 ⟨h1, h2, h3⟩

set_option maxHeartbeats 1000000 in
theorem lwcMi {r0 : Int32} (C0 : lw_At p s m meth cd b L xs) (F : lw_F dC dI ad ad' cA cA' s) (G : lw_G dC dI ad ad' cA cA' s c t H locs) (hM : Met l y ws rm (gP (dC, dI) (wM ad' cA') (kM (dC, dI) cA') t H.size (.ref (ad' 0) :: As)) (gQi (dC, dI) (wM ad' cA') (fA 15 ad' H.size) r0 c1) 0 0 (fA 15 ad' H.size)) (cw : CallW room_1 s #[Value.ref b] RL RX5 index y bytes maxL ret9 ws rm 0 0 n) (hn : As.length = n) (hls : ls.size = 4) (hstack : st = As.reverse ++ .ref (ad' 0) :: rest) (hW : (rest.map fun v => v.category).sum ≤ 8) (hdg : decode cL_law pc = .ok (.invokevirtual index, 3))
    (kk : ∀ (H1 : Heap) (locs1 : List Loc), lw_G dC dI ad ad' cA cA' s c c1 H1 locs1 → W p l e room_1 s m #[Value.ref b] below meth cd H1 locs1 32 15704 (lw_Z below #[Value.ref b] s) (F0 m (pc + 3) ls (.int r0 :: rest))) : W p l e room_1 s m #[Value.ref b] below meth cd H locs 32 15704 (lw_Z below #[Value.ref b] s) (F0 m pc ls st) := by
  have hts2 := lw_ts C0
  obtain ⟨hx, hb, hr, hml, hown, hts, hX, hbl, hlocks, hgv⟩ := C0
  obtain ⟨hap, hap', hsep, hAd, hAd', hKC, hKM⟩ := F
  obtain ⟨hP, hP2, hS⟩ := G
  have hf : ∀ q, fA 15 ad' H.size q → s.heap.size ≤ q := by
    intro q h
    rcases h with ⟨k, hk, e9⟩ | h2
    · rw [e9]; exact hAd' k hk
    · exact Nat.le_trans hS.1 h2
  refine va_calli (gV (Ts := wsL_law) ⟨hx, hb, hml, hown, hts2⟩ hM cw (kM_st _ _) hKM hP2 (va_recv hKM hP2 (ci := 5) (q0 := 0) rfl rfl) hn hls hstack hW hdg ⟨by decide, by decide⟩) hS (fun q _ h => hf q h) hf (fun r u t9 H1 locs1 ht hvm hw hB hz hk1 hS1 => ?_)
  obtain ⟨rfl, rfl⟩ := hw
  have h1 : va_P (dC, dI) vwCl (wM ad' cA' u) H1 := by rw [← ht]; exact hB
  have h2 := two_keep hP hk1 (fun k q hq j hj e9 => by
    obtain ⟨hk, e2⟩ := at_ad (N := 17) (ad := ad) rfl hq
    exact hsep k j hk hj (by rw [← e9, e2]))
  have h3 := hS1
  exact kk H1 locs1 ⟨h2, h1, h3⟩

set_option maxHeartbeats 1000000 in
theorem lwcMl {r0 : Int64} (C0 : lw_At p s m meth cd b L xs) (F : lw_F dC dI ad ad' cA cA' s) (G : lw_G dC dI ad ad' cA cA' s c t H locs) (hM : Met l y ws rm (gP (dC, dI) (wM ad' cA') (kM (dC, dI) cA') t H.size (.ref (ad' 0) :: As)) (gQl (dC, dI) (wM ad' cA') (fA 15 ad' H.size) r0 c1) 0 0 (fA 15 ad' H.size)) (cw : CallW room_1 s #[Value.ref b] RL RX5 index y bytes maxL ret9 ws rm 0 0 n) (hn : As.length = n) (hls : ls.size = 4) (hstack : st = As.reverse ++ .ref (ad' 0) :: rest) (hW : (rest.map fun v => v.category).sum ≤ 8) (hdg : decode cL_law pc = .ok (.invokevirtual index, 3))
    (kk : ∀ (H1 : Heap) (locs1 : List Loc), lw_G dC dI ad ad' cA cA' s c c1 H1 locs1 → W p l e room_1 s m #[Value.ref b] below meth cd H1 locs1 32 15704 (lw_Z below #[Value.ref b] s) (F0 m (pc + 3) ls (.long r0 :: rest))) : W p l e room_1 s m #[Value.ref b] below meth cd H locs 32 15704 (lw_Z below #[Value.ref b] s) (F0 m pc ls st) := by
  have hts2 := lw_ts C0
  obtain ⟨hx, hb, hr, hml, hown, hts, hX, hbl, hlocks, hgv⟩ := C0
  obtain ⟨hap, hap', hsep, hAd, hAd', hKC, hKM⟩ := F
  obtain ⟨hP, hP2, hS⟩ := G
  have hf : ∀ q, fA 15 ad' H.size q → s.heap.size ≤ q := by
    intro q h
    rcases h with ⟨k, hk, e9⟩ | h2
    · rw [e9]; exact hAd' k hk
    · exact Nat.le_trans hS.1 h2
  refine va_calll (gV (Ts := wsL_law) ⟨hx, hb, hml, hown, hts2⟩ hM cw (kM_st _ _) hKM hP2 (va_recv hKM hP2 (ci := 5) (q0 := 0) rfl rfl) hn hls hstack hW hdg ⟨by decide, by decide⟩) hS (fun q _ h => hf q h) hf (fun r u t9 H1 locs1 ht hvm hw hB hz hk1 hS1 => ?_)
  obtain ⟨rfl, rfl⟩ := hw
  have h1 : va_P (dC, dI) vwCl (wM ad' cA' u) H1 := by rw [← ht]; exact hB
  have h2 := two_keep hP hk1 (fun k q hq j hj e9 => by
    obtain ⟨hk, e2⟩ := at_ad (N := 17) (ad := ad) rfl hq
    exact hsep k j hk hj (by rw [← e9, e2]))
  have h3 := hS1
  exact kk H1 locs1 ⟨h2, h1, h3⟩
end LAW
