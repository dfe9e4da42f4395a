abbrev HS : Type := (Nat → Nat → Int32) × Int64
def hs (c : HS) (k i : Nat) (v : Int32) : HS := (fun k' => if k' = k then upd (c.1 k) i v else c.1 k', c.2)
def hsl (c : HS) (v : Int64) : HS := (c.1, v)
def FU : Nat := 100000
def ldA {α : Type} (c : HS) (k N : Nat) (i : Int32) (K : Int32 → Option α) : Option α := if i < 0 ∨ N ≤ i.toNatClampNeg then none else K (c.1 k i.toNatClampNeg)
def stA {α : Type} (c : HS) (k N : Nat) (i v : Int32) (K : HS → Option α) : Option α := if i < 0 ∨ N ≤ i.toNatClampNeg then none else K (hs c k i.toNatClampNeg v)
def stZ {α : Type} (c : HS) (k N : Nat) (i v : Int32) (K : HS → Option α) : Option α := if i < 0 ∨ N ≤ i.toNatClampNeg then none else if v = 0 ∨ v = 1 then K (hs c k i.toNatClampNeg v) else none
def pfA {α : Type} (c : HS) (j : Nat) (v : Int32) (K : HS → α) : α := K (hs c 0 j v)
def pfL {α : Type} (c : HS) (v : Int64) (K : HS → α) : α := K (hsl c v)
def gdZ {α : Type} (v : Int32) (K : Option α) : Option α := if v = 0 ∨ v = 1 then K else none
def gdN {α : Type} (v : Int32) (K : Option α) : Option α := if v = 0 then none else K
def bd1 {α β : Type} (o : Option β) (K : β → Option α) : Option α := match o with | none => none | some q => K q
def bd2 {α β : Type} (o : Option (β × HS)) (K : β → HS → Option α) : Option α := match o with | none => none | some q => K q.1 q.2
theorem ldA_some {α : Type} {c : HS} {k N : Nat} {i : Int32} {K : Int32 → Option α} {y : Option α} (hy : y ≠ none) (h : ldA c k N i K = y) : vp_in i N ∧ ∃ v, v = c.1 k i.toNatClampNeg ∧ K v = y := by
  unfold ldA at h
  by_cases hi : i < 0 ∨ N ≤ i.toNatClampNeg
  · rw [if_pos hi] at h; exact absurd h.symm hy
  · rw [if_neg hi] at h; exact ⟨hi, _, rfl, h⟩
theorem stA_some {α : Type} {c : HS} {k N : Nat} {i v : Int32} {K : HS → Option α} {y : Option α} (hy : y ≠ none) (h : stA c k N i v K = y) : vp_in i N ∧ ∃ c1, c1 = hs c k i.toNatClampNeg v ∧ K c1 = y := by
  unfold stA at h
  by_cases hi : i < 0 ∨ N ≤ i.toNatClampNeg
  · rw [if_pos hi] at h; exact absurd h.symm hy
  · rw [if_neg hi] at h; exact ⟨hi, _, rfl, h⟩
theorem nz_ok {v : Int32} (h : v = 0 ∨ v = 1) : narrow .boolean (.int v) = .int v ∧ fits .boolean (.int v) = true ∧ vp_nar .boolean v = v := by
  rcases h with rfl | rfl <;> exact ⟨rfl, rfl, rfl⟩
theorem stZ_some {α : Type} {c : HS} {k N : Nat} {i v : Int32} {K : HS → Option α} {y : Option α} (hy : y ≠ none) (h : stZ c k N i v K = y) : vp_in i N ∧ vp_nar .boolean v = v ∧ ∃ c1, c1 = hs c k i.toNatClampNeg v ∧ K c1 = y := by
  unfold stZ at h
  by_cases hi : i < 0 ∨ N ≤ i.toNatClampNeg
  · rw [if_pos hi] at h; exact absurd h.symm hy
  · rw [if_neg hi] at h
    by_cases hv : v = 0 ∨ v = 1
    · rw [if_pos hv] at h; exact ⟨hi, (nz_ok hv).2.2, _, rfl, h⟩
    · rw [if_neg hv] at h; exact absurd h.symm hy
theorem pfA_some {α : Type} {c : HS} {j : Nat} {v : Int32} {K : HS → α} {y : α} (h : pfA c j v K = y) : ∃ c1, c1 = hs c 0 j v ∧ K c1 = y := ⟨_, rfl, h⟩
theorem pfL_some {α : Type} {c : HS} {v : Int64} {K : HS → α} {y : α} (h : pfL c v K = y) : ∃ c1, c1 = hsl c v ∧ K c1 = y := ⟨_, rfl, h⟩
theorem gdZ_some {α : Type} {v : Int32} {K : Option α} {y : Option α} (hy : y ≠ none) (h : gdZ v K = y) : (narrow .boolean (.int v) = .int v ∧ fits .boolean (.int v) = true) ∧ K = y := by
  unfold gdZ at h
  by_cases hv : v = 0 ∨ v = 1
  · rw [if_pos hv] at h; exact ⟨⟨(nz_ok hv).1, (nz_ok hv).2.1⟩, h⟩
  · rw [if_neg hv] at h; exact absurd h.symm hy
theorem gdN_some {α : Type} {v : Int32} {K : Option α} {y : Option α} (hy : y ≠ none) (h : gdN v K = y) : ¬ v = 0 ∧ K = y := by
  unfold gdN at h
  by_cases hv : v = 0
  · rw [if_pos hv] at h; exact absurd h.symm hy
  · rw [if_neg hv] at h; exact ⟨hv, h⟩
theorem bd1_some {α β : Type} {o : Option β} {K : β → Option α} {y : Option α} (hy : y ≠ none) (h : bd1 o K = y) : ∃ r, o = some r ∧ K r = y := by
  cases o with
  | none => exact absurd h.symm hy
  | some q => exact ⟨q, rfl, h⟩
theorem bd2_some {α β : Type} {o : Option (β × HS)} {K : β → HS → Option α} {y : Option α} (hy : y ≠ none) (h : bd2 o K = y) : ∃ r c1, o = some (r, c1) ∧ K r c1 = y := by
  cases o with
  | none => exact absurd h.symm hy
  | some q => exact ⟨q.1, q.2, rfl, h⟩
def tlA {α : Type} (o : HS) (K : HS → α) : α := K o
theorem tlA_some {α : Type} {o : HS} {K : HS → α} {y : α} (h : tlA o K = y) : ∃ c1, o = c1 ∧ K c1 = y := ⟨o, rfl, h⟩
theorem it_p {α : Type} {P : Prop} [Decidable P] {a b y : α} (h : P) (hM : ite P a b = y) : a = y := by rw [if_pos h] at hM; exact hM
theorem it_n {α : Type} {P : Prop} [Decidable P] {a b y : α} (h : ¬ P) (hM : ite P a b = y) : b = y := by rw [if_neg h] at hM; exact hM
theorem pr1 {α : Type} {a b : α} (h : some a = some b) : a = b := Option.some.inj h
theorem pr2 {α β : Type} {a a' : α} {b b' : β} (h : some (a, b) = some (a', b')) : a = a' ∧ b = b' := by cases h; exact ⟨rfl, rfl⟩
theorem sm_ne {α : Type} {a : α} : some a ≠ (none : Option α) := fun h => by cases h
theorem tsw_out {x : Int32} (n : Nat) (hn : n < 1000) (h : ∀ k : Nat, k ≤ n → ¬ x = nI k) : x.toInt < 0 ∨ (n : Int) < x.toInt := by
  by_cases h0 : x < 0
  · left
    exact Int32.lt_iff_toInt_lt.mp h0
  · right
    obtain ⟨j, hj, rfl⟩ := nI_of h0
    rw [nI_toInt hj]
    by_cases hk : j ≤ n
    · exact absurd rfl (h j hk)
    · omega
def fA (N : Nat) (ad : Nat → Nat) (sz : Nat) : Nat → Prop := fun q => (∃ k, k < N ∧ q = ad k) ∨ sz ≤ q
theorem fA_mono {N : Nat} {ad : Nat → Nat} {a b q : Nat} (h : a ≤ b) (hq : fA N ad b q) : fA N ad a q := hq.elim Or.inl (fun h2 => Or.inr (Nat.le_trans h h2))
def apart (N : Nat) (ad : Nat → Nat) : Prop := ∀ i j, i < N → j < N → ad i = ad j → i = j
theorem dW {N : Nat} {ad : Nat → Nat} (h : apart N ad) {ws : va_W} (hw : ws.map (fun q => q.1) = (List.range N).map ad) (sz : Nat) : va_D (fA N ad sz) ws := by
  have key : ∀ (k : Nat) (q : Nat × va_E), ws[k]? = some q → k < N ∧ q.1 = ad k := by
    intro k q hq
    have h1 : (ws.map (fun q => q.1))[k]? = some q.1 := by rw [List.getElem?_map, hq]; rfl
    rw [hw, List.getElem?_map] at h1
    by_cases hk : k < N
    · rw [List.getElem?_range hk] at h1
      exact ⟨hk, (Option.some.inj h1).symm⟩
    · rw [List.getElem?_eq_none (by rw [List.length_range]; omega)] at h1
      cases h1
  refine ⟨fun i j p q hi hj hpq => ?_, fun k q hk => Or.inl ⟨k, (key k q hk).1, (key k q hk).2⟩⟩
  obtain ⟨a1, a2⟩ := key i p hi
  obtain ⟨b1, b2⟩ := key j q hj
  exact h i j a1 b1 (by rw [← a2, ← b2]; exact hpq)
def nC (U : State) : Prop := va_Nw (.methodLinkNest RX3 58 yX4_cellWords RX4) U ∧ va_Nw (.methodLinkNest RX3 64 yX4_classFor RX4) U ∧ va_Nw (.methodLinkNest RX3 67 yX4_blocksFor RX4) U ∧ va_Nw (.methodLinkNest RX3 77 yX4_cellsOf RX4) U
abbrev wC (ad : Nat → Nat) (cA : Nat → ClassId) (c : HS) : va_W := [
  (ad 0, .inr (4, [.ref (ad 1), .ref (ad 2), .ref (ad 3), .ref (ad 4), .int (c.1 0 11), .int (c.1 0 12), .int (c.1 0 13)])),
  (ad 1, .inr (3, [.int (c.1 0 0), .int (c.1 0 1), .ref (ad 5), .ref (ad 6), .ref (ad 7), .ref (ad 8), .ref (ad 9), .ref (ad 10), .ref (ad 11)])),
  (ad 2, .inr (2, [.int (c.1 0 2), .ref (ad 12), .int (c.1 0 3), .int (c.1 0 4), .ref (ad 13)])),
  (ad 3, .inr (1, [.ref (ad 14), .ref (ad 15), .int (c.1 0 5)])),
  (ad 4, .inr (0, [.ref (ad 1), .ref (ad 2), .ref (ad 3), .ref (ad 16), .int (c.1 0 6), .int (c.1 0 7), .int (c.1 0 8), .int (c.1 0 9), .int (c.1 0 10)])),
  (ad 5, .inl (cA 0, 24, .inl (c.1 1))), (ad 6, .inl (cA 1, 24, .inl (c.1 2))), (ad 7, .inl (cA 2, 24, .inl (c.1 3))), (ad 8, .inl (cA 3, 1536, .inl (c.1 4))),
  (ad 9, .inl (cA 4, 768, .inl (c.1 5))), (ad 10, .inl (cA 5, 768, .inl (c.1 6))), (ad 11, .inl (cA 6, 768, .inl (c.1 7))), (ad 12, .inl (cA 7, 12, .inl (c.1 8))),
  (ad 13, .inl (cA 8, 24, .inl (c.1 9))), (ad 14, .inl (cA 9, 10, .inl (c.1 10))), (ad 15, .inl (cA 10, 24, .inl (c.1 11))), (ad 16, .inl (cA 11, 768, .inl (c.1 12)))]
abbrev tC (cA : Nat → ClassId) : List (ClassId × FieldType) := [(cA 0, .int), (cA 1, .int), (cA 2, .int), (cA 3, .int), (cA 4, .int), (cA 5, .int), (cA 6, .int), (cA 7, .int), (cA 8, .int), (cA 9, .int), (cA 10, .int), (cA 11, .int)]
abbrev wM (ad : Nat → Nat) (cA : Nat → ClassId) (c : HS) : va_W := [
  (ad 0, .inr (5, [.int (c.1 0 0), .ref (ad 1), .ref (ad 2), .ref (ad 3), .ref (ad 4), .ref (ad 5), .ref (ad 6), .ref (ad 7), .ref (ad 8), .ref (ad 9), .ref (ad 10), .ref (ad 11), .ref (ad 12), .int (c.1 0 1), .ref (ad 13), .int (c.1 0 2), .int (c.1 0 3), .int (c.1 0 4), .int (c.1 0 5), .int (c.1 0 6), .int (c.1 0 7), .int (c.1 0 8), .int (c.1 0 9), .int (c.1 0 10), .int (c.1 0 11), .ref (ad 14), .long c.2])),
  (ad 1, .inl (cA 0, 24, .inl (c.1 1))), (ad 2, .inl (cA 1, 24, .inl (c.1 2))), (ad 3, .inl (cA 2, 24, .inl (c.1 3))), (ad 4, .inl (cA 3, 24, .inl (c.1 4))),
  (ad 5, .inl (cA 4, 1536, .inl (c.1 5))), (ad 6, .inl (cA 5, 1536, .inl (c.1 6))), (ad 7, .inl (cA 6, 1536, .inl (c.1 7))), (ad 8, .inl (cA 7, 1536, .inl (c.1 8))),
  (ad 9, .inl (cA 8, 1536, .inl (c.1 9))), (ad 10, .inl (cA 9, 1536, .inl (c.1 10))), (ad 11, .inl (cA 10, 10, .inl (c.1 11))), (ad 12, .inl (cA 11, 24, .inl (c.1 12))), (ad 13, .inl (cA 12, 12, .inl (c.1 13))), (ad 14, .inl (cA 13, 1536, .inl (c.1 14)))]
abbrev tM (cA : Nat → ClassId) : List (ClassId × FieldType) := [(cA 0, .int), (cA 1, .int), (cA 2, .boolean), (cA 3, .boolean), (cA 4, .int), (cA 5, .boolean), (cA 6, .boolean), (cA 7, .boolean), (cA 8, .int), (cA 9, .int), (cA 10, .int), (cA 11, .int), (cA 12, .int), (cA 13, .boolean)]
theorem dC_ok {ad : Nat → Nat} (h : apart 17 ad) (cA : Nat → ClassId) (c : HS) (sz : Nat) : va_D (fA 17 ad sz) (wC ad cA c) := dW h rfl sz
theorem dM_ok {ad : Nat → Nat} (h : apart 15 ad) (cA : Nat → ClassId) (c : HS) (sz : Nat) : va_D (fA 15 ad sz) (wM ad cA c) := dW h rfl sz
def kC (D : va_G) (cA : Nat → ClassId) (U : State) : Prop := va_K D vwCl (tC cA) U ∧ nC U
def kM (D : va_G) (cA : Nat → ClassId) (U : State) : Prop := va_K D vwCl (tM cA) U
def stays (KK : State → Prop) : Prop := (∀ (U : State) (g : JFrame) (mk : MethodId) (a : Array Value), KK U → KK (U.calling g mk a)) ∧ ∀ s U : State, s.WarmedH U.vm → KK s → KK U
theorem nC_st : stays nC := by
  refine ⟨fun U g mk a h => ?_, fun s U hW h => ⟨h.1.warmM hW, h.2.1.warmM hW, h.2.2.1.warmM hW, h.2.2.2.warmM hW⟩⟩
  exact ⟨va_Nw.same rfl rfl h.1, va_Nw.same rfl rfl h.2.1, va_Nw.same rfl rfl h.2.2.1, va_Nw.same rfl rfl h.2.2.2⟩
theorem kC_st (D : va_G) (cA : Nat → ClassId) : stays (kC D cA) := ⟨fun U g mk a h => ⟨va_K.moved (u := U) (U := U.calling g mk a) (Vm.Alike.refl U.vm) h.1, nC_st.1 U g mk a h.2⟩, fun s U hW h => ⟨va_K.moved hW.alike h.1, nC_st.2 s U hW h.2⟩⟩
theorem kM_st (D : va_G) (cA : Nat → ClassId) : stays (kM D cA) := ⟨fun U g mk a h => va_K.moved (u := U) (U := U.calling g mk a) (Vm.Alike.refl U.vm) h, fun s U hW h => va_K.moved hW.alike h⟩
def gP (D : va_G) (w : HS → va_W) (KK : State → Prop) (c : HS) (sz : Nat) (av : List Value) : Array Value → State → Prop := va_Pc av (fun U => U.heap.size = sz ∧ va_P D vwCl (w c) U.heap ∧ KK U)
def gQi (D : va_G) (w : HS → va_W) (A : Nat → Prop) (r0 : Int32) (c1 : HS) : Array Value → State → Outcome → State → Prop := va_Qi (fun r u => r = r0 ∧ u = c1) (fun u t => va_P D vwCl (w u) t.heap) A
def gQl (D : va_G) (w : HS → va_W) (A : Nat → Prop) (r0 : Int64) (c1 : HS) : Array Value → State → Outcome → State → Prop := va_Ql (fun r u => r = r0 ∧ u = c1) (fun u t => va_P D vwCl (w u) t.heap) A
def gQv (D : va_G) (w : HS → va_W) (A : Nat → Prop) (c1 : HS) : Array Value → State → Outcome → State → Prop := va_Qv (fun u => u = c1) (fun u t => va_P D vwCl (w u) t.heap) A
theorem gP_bl {D : va_G} {w : HS → va_W} {KK : State → Prop} (hs : stays KK) {c : HS} {sz : Nat} {av : List Value} : FrameBlind (gP D w KK c sz av) := fun a U g mk h => ⟨h.1, h.2.1, h.2.2.1, hs.1 U g mk a h.2.2.2⟩
theorem hPt {D : va_G} {cl : List vw_C} {ws : va_W} {t : State} {H : Heap} (ht : t.heap = H) (h : va_P D cl ws H) : va_P D cl ws t.heap := by rw [ht]; exact h
section GC
variable {p : Program} {l : Launch} {e : Env} {R : Room} {s : State} {m : MethodId} {args : Array Value} {below : List Frame} {meth : Method} {cd : Code} {H : Heap} {locs : List Loc} {Q : State → Prop} {cells slots : Nat}
variable {pc nL n index maxL : Nat} {ls : Array Slot} {rest st : List Value} {a : Array Value} {A0 : Nat → Prop} {H0 : Heap} {y : MethodName} {ws Ts : List Cond} {rm : Room} {own C host : String} {bytes cc : ByteArray} {ret : Option FieldType} {D : va_G} {w : HS → va_W} {KK : State → Prop} {c c1 : HS} {As : List Value} {b N : Nat} {ad : Nat → Nat}
theorem hA_of (hS : va_S (fA N ad H0.size) H0 H locs) : ∀ q, fA N ad H.size q → fA N ad H0.size q := fun _ h => fA_mono hS.1 h
theorem gCi {r0 : Int32} (hr : va_Run p l e R s m args below meth cd H locs cells slots 0 0 (F0 m pc ls st) rest (gQi D w (fA N ad H.size) r0 c1 a) (fA N ad H.size)) (hS : va_S (fA N ad H0.size) H0 H locs)
    (kk : ∀ (H1 : Heap) (locs1 : List Loc), va_P D vwCl (w c1) H1 → va_S (fA N ad H0.size) H0 H1 locs1 → W p l e R s m args below meth cd H1 locs1 cells slots Q (F0 m (pc + 3) ls (.int r0 :: rest))) : W p l e R s m args below meth cd H locs cells slots Q (F0 m pc ls st) := by
  refine va_calli hr hS (fun q _ h => hA_of hS q h) (hA_of hS) (fun r u t H1 locs1 ht hvm hw hB hz hk hS1 => ?_)
  obtain ⟨rfl, rfl⟩ := hw
  exact kk H1 locs1 (by rw [← ht]; exact hB) hS1
theorem gCl {r0 : Int64} (hr : va_Run p l e R s m args below meth cd H locs cells slots 0 0 (F0 m pc ls st) rest (gQl D w (fA N ad H.size) r0 c1 a) (fA N ad H.size)) (hS : va_S (fA N ad H0.size) H0 H locs)
    (kk : ∀ (H1 : Heap) (locs1 : List Loc), va_P D vwCl (w c1) H1 → va_S (fA N ad H0.size) H0 H1 locs1 → W p l e R s m args below meth cd H1 locs1 cells slots Q (F0 m (pc + 3) ls (.long r0 :: rest))) : W p l e R s m args below meth cd H locs cells slots Q (F0 m pc ls st) := by
  refine va_calll hr hS (fun q _ h => hA_of hS q h) (hA_of hS) (fun r u t H1 locs1 ht hvm hw hB hz hk hS1 => ?_)
  obtain ⟨rfl, rfl⟩ := hw
  exact kk H1 locs1 (by rw [← ht]; exact hB) hS1
theorem gCv (hr : va_Run p l e R s m args below meth cd H locs cells slots 0 0 (F0 m pc ls st) rest (gQv D w (fA N ad H.size) c1 a) (fA N ad H.size)) (hS : va_S (fA N ad H0.size) H0 H locs)
    (kk : ∀ (H1 : Heap) (locs1 : List Loc), va_P D vwCl (w c1) H1 → va_S (fA N ad H0.size) H0 H1 locs1 → W p l e R s m args below meth cd H1 locs1 cells slots Q (F0 m (pc + 3) ls rest)) : W p l e R s m args below meth cd H locs cells slots Q (F0 m pc ls st) := by
  refine va_callv hr hS (fun q _ h => hA_of hS q h) (hA_of hS) (fun u t H1 locs1 ht hvm hw hB hz hk hS1 => ?_)
  subst hw
  exact kk H1 locs1 (by rw [← ht]; exact hB) hS1
variable {Qc : Array Value → State → Outcome → State → Prop} {free : Addr → Prop}
theorem gV (S : CallFix p m cd cc nL s args Ts own) (hM : Met l y ws rm (gP D w KK c H.size (.ref b :: As)) Qc 0 0 free) (cw : CallW R s args own C index y bytes maxL ret ws rm 0 0 n) (hst : stays KK) (hK : KK s) (hP : va_P D vwCl (w c) H) (hrec : ∃ cell : Cell, H[b]? = some cell ∧ cell.vm.isStatics = false ∧ s.vm.findClass C = some cell.cls)
    (hn : As.length = n) (hsize : ls.size = nL) (hstack : st = As.reverse ++ .ref b :: rest) (hW : (rest.map fun v => v.category).sum ≤ 8) (hdg : decode cc pc = .ok (.invokevirtual index, 3)) (hf : cells ≤ R.cells ∧ slots ≤ R.slots) :
    va_Run p l e R s m args below meth cd H locs cells slots 0 0 (F0 m pc ls st) rest (Qc (Value.ref b :: As).toArray) free :=
  va_runV S hM cw ⟨gP_bl hst, hrec, fun U hU hWm => ⟨rfl, by rw [hU], by rw [hU]; exact hP, hst.2 s U hWm hK⟩⟩ rfl hn hsize hstack (lv_room hW) hdg ⟨hf.1, hf.2⟩
theorem gS (S : CallFix p m cd cc nL s args Ts own) (hM : Met l y ws rm (gP D w KK c H.size As) Qc 0 0 free) (cw : CallB R s args own index y bytes maxL ret ws rm 0 0 n ∧ (Cond.static y).before args s = true) (hst : stays KK) (hK : KK s) (hP : va_P D vwCl (w c) H)
    (hn : As.length = n) (hsize : ls.size = nL) (hstack : st = As.reverse ++ rest) (hW : (rest.map fun v => v.category).sum ≤ 8) (hdg : decode cc pc = .ok (.invokestatic index, 3)) (hf : cells ≤ R.cells ∧ slots ≤ R.slots) :
    va_Run p l e R s m args below meth cd H locs cells slots 0 0 (F0 m pc ls st) rest (Qc As.toArray) free :=
  va_runS S hM cw ⟨gP_bl hst, fun U hU hWm => ⟨rfl, by rw [hU], by rw [hU]; exact hP, hst.2 s U hWm hK⟩⟩ rfl hn hsize hstack (lv_room hW) hdg ⟨hf.1, hf.2⟩
theorem gSN (S : CallFix p m cd cc nL s args Ts own) (hM : Met l y ws rm (gP D w KK c H.size As) Qc 0 0 free) (cw : va_CN R s args own index y host bytes maxL ret ws rm 0 0 n) (hs : (Cond.static y).before args s = true) (hst : stays KK) (hK : KK s) (hP : va_P D vwCl (w c) H)
    (hn : As.length = n) (hsize : ls.size = nL) (hstack : st = As.reverse ++ rest) (hW : (rest.map fun v => v.category).sum ≤ 8) (hdg : decode cc pc = .ok (.invokestatic index, 3)) (hf : cells ≤ R.cells ∧ slots ≤ R.slots) :
    va_Run p l e R s m args below meth cd H locs cells slots 0 0 (F0 m pc ls st) rest (Qc As.toArray) free :=
  va_runSN S hM ⟨cw, hs, trivial⟩ ⟨gP_bl hst, fun U hU hWm => ⟨rfl, by rw [hU], by rw [hU]; exact hP, hst.2 s U hWm hK⟩⟩ rfl hn hsize hstack (lv_room hW) hdg ⟨hf.1, hf.2⟩
variable {tys : List (ClassId × FieldType)} {ws0 : va_W} {A : Nat → Prop} {q : Nat} {cl : List vw_C}
theorem gald (hx : p.tables.exec = Jvm.exec) (hb : cd.code = cc) (hK : va_K D cl tys s) (hP : va_P D cl ws0 H) (q0 t0 : Nat) {cA : ClassId} {k : Nat} {f : Nat → Int32} (ha : ws0[q0]? = some (q, .inl (cA, k, .inl f))) (ht : tys[t0]? = some (cA, .int)) {i v : Int32} (hin : vp_in i k) (hv : v = f i.toNatClampNeg) (hdg : decode cc pc = .ok (.iaload, 1))
    (kk : W p l e R s m args below meth cd H locs cells slots Q (F0 m (pc + 1) ls (.int v :: rest))) : W p l e R s m args below meth cd H locs cells slots Q (F0 m pc ls (.int i :: .ref q :: rest)) := by
  subst hv
  exact va_iald hx hb hK hP q0 t0 ha ht hin hdg kk
theorem gzld (hx : p.tables.exec = Jvm.exec) (hb : cd.code = cc) (hK : va_K D cl tys s) (hP : va_P D cl ws0 H) (q0 t0 : Nat) {cA : ClassId} {k : Nat} {f : Nat → Int32} (ha : ws0[q0]? = some (q, .inl (cA, k, .inl f))) (ht : tys[t0]? = some (cA, .boolean)) {i v : Int32} (hin : vp_in i k) (hv : v = f i.toNatClampNeg) (hdg : decode cc pc = .ok (.baload, 1))
    (kk : W p l e R s m args below meth cd H locs cells slots Q (F0 m (pc + 1) ls (.int v :: rest))) : W p l e R s m args below meth cd H locs cells slots Q (F0 m pc ls (.int i :: .ref q :: rest)) := by
  subst hv
  exact va_zald hx hb hK hP q0 t0 ha ht hin hdg kk
theorem gast (hx : p.tables.exec = Jvm.exec) (hb : cd.code = cc) (hK : va_K D vwCl tys s) (hP : va_P D vwCl (w c) H) (hD : va_D A (w c)) (hS : va_S A H0 H locs) (q0 t0 : Nat) {cA : ClassId} {k : Nat} {f : Nat → Int32} (ha : (w c)[q0]? = some (q, .inl (cA, k, .inl f))) (ht : tys[t0]? = some (cA, .int)) {i v : Int32} (hin : vp_in i k) (hw : (w c).set q0 (q, .inl (cA, k, .inl (upd f i.toNatClampNeg v))) = w c1) (hdg : decode cc pc = .ok (.iastore, 1))
    (kk : ∀ (H1 : Heap) (locs1 : List Loc), va_P D vwCl (w c1) H1 → va_S A H0 H1 locs1 → W p l e R s m args below meth cd H1 locs1 cells slots Q (F0 m (pc + 1) ls rest)) : W p l e R s m args below meth cd H locs cells slots Q (F0 m pc ls (.int v :: .int i :: .ref q :: rest)) :=
  va_iast hx hb hK hP hD hS q0 t0 ha ht hin hdg (fun H1 locs1 hP1 _ hS1 => kk H1 locs1 (by rw [← hw]; exact hP1) hS1)
theorem gzst (hx : p.tables.exec = Jvm.exec) (hb : cd.code = cc) (hK : va_K D vwCl tys s) (hP : va_P D vwCl (w c) H) (hD : va_D A (w c)) (hS : va_S A H0 H locs) (q0 t0 : Nat) {cA : ClassId} {k : Nat} {f : Nat → Int32} (ha : (w c)[q0]? = some (q, .inl (cA, k, .inl f))) (ht : tys[t0]? = some (cA, .boolean)) {i v : Int32} (hin : vp_in i k) (hn : vp_nar .boolean v = v) (hw : (w c).set q0 (q, .inl (cA, k, .inl (upd f i.toNatClampNeg v))) = w c1) (hdg : decode cc pc = .ok (.bastore, 1))
    (kk : ∀ (H1 : Heap) (locs1 : List Loc), va_P D vwCl (w c1) H1 → va_S A H0 H1 locs1 → W p l e R s m args below meth cd H1 locs1 cells slots Q (F0 m (pc + 1) ls rest)) : W p l e R s m args below meth cd H locs cells slots Q (F0 m pc ls (.int v :: .int i :: .ref q :: rest)) :=
  va_zast hx hb hK hP hD hS q0 t0 ha ht hin hdg (fun H1 locs1 hP1 _ hS1 => kk H1 locs1 (by rw [← hw]; rw [hn] at hP1; exact hP1) hS1)
theorem gget (hx : p.tables.exec = Jvm.exec) (hb : cd.code = cc) {ref : String} {T : u_T} {NF ci : Nat} (hts : ∀ w ∈ Ts, w.before args s = true) (hin : ∀ w ∈ u_ws C T NF, w ∈ Ts) (hown : s.vm.findClass own = some m.cls) (hK : va_K D cl tys s) (hP : va_P D cl ws0 H) (q0 : Nat) {fs : List Value} (he : ws0[q0]? = some (q, .inr (ci, fs))) (hc : cl[ci]? = some (C, T, NF)) (k : Nat) (hk : k < NF) (hlink : (Cond.fieldLink own index ref (T k).2.1 (T k).2.2.1).before args s = true) (hsame : (T k).1 = ref) {v : Value} (hv : fs[k]? = some v) (hdg : decode cc pc = .ok (.getfield index, 3))
    (kk : W p l e R s m args below meth cd H locs cells slots Q (F0 m (pc + 3) ls (v :: rest))) : W p l e R s m args below meth cd H locs cells slots Q (F0 m pc ls (.ref q :: rest)) :=
  va_get hx hb hts hin hown hK hP q0 he hc k hk hlink (fun _ h9 => by rw [hsame] at h9; exact h9) hv hdg kk
theorem gput (hx : p.tables.exec = Jvm.exec) (hb : cd.code = cc) {ref : String} {T : u_T} {NF ci : Nat} (hts : ∀ w ∈ Ts, w.before args s = true) (hin : ∀ w ∈ u_ws C T NF, w ∈ Ts) (ty0 : Nat → FieldType) (hty : ∀ k, k < NF → parseFieldDescriptor (T k).2.2.1 = some (ty0 k)) (hnm : ∀ a, a < NF → ∀ b, b < NF → a ≠ b → (T a).2.1 ≠ (T b).2.1) (hown : s.vm.findClass own = some m.cls) (hK : va_K D vwCl tys s) (hP : va_P D vwCl (w c) H) (hD : va_D A (w c)) (hS : va_S A H0 H locs) (q0 : Nat) {fs : List Value} (he : (w c)[q0]? = some (q, .inr (ci, fs))) (hc : vwCl[ci]? = some (C, T, NF)) (k : Nat) (hk : k < NF) (hlink : (Cond.fieldLink own index ref (T k).2.1 (T k).2.2.1).before args s = true) (hsame : (T k).1 = ref) (hfin : (T k).2.2.2 = false) {v : Value} (hn : narrow (ty0 k) v = v) (hfit : fits (ty0 k) v = true) (hl : k < fs.length) (hw : (w c).set q0 (q, .inr (ci, fs.set k v)) = w c1)
    (hdg : decode cc pc = .ok (.putfield index, 3)) (kk : ∀ (H1 : Heap) (locs1 : List Loc), va_P D vwCl (w c1) H1 → va_S A H0 H1 locs1 → W p l e R s m args below meth cd H1 locs1 cells slots Q (F0 m (pc + 3) ls rest)) : W p l e R s m args below meth cd H locs cells slots Q (F0 m pc ls (v :: .ref q :: rest)) :=
  va_put hx hb hts hin ty0 hty hnm hown hK hP hD hS q0 he hc k hk hlink (fun _ h9 => by rw [hsame] at h9; exact h9) hfin (hty k hk) hn hfit hl hdg (fun H1 locs1 hP1 _ hS1 => kk H1 locs1 (by rw [← hw]; exact hP1) hS1)
end GC
