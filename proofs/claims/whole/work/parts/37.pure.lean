def KW (R : Nat → Prop) (E : Nat) (F : Nat → Int32) : Prop := (∀ a, a < E → F a = 0 ∨ F a = 1) ∧ ∀ a, a < E → F a = 1 → R a
def MI (t : HS) (B : Nat) : Prop := Lay t B ∧ ivRef t ∧ ivRoot t ∧ ivSc t
theorem findM {t : HS} {B : Nat} {R : Nat → Prop} {F D : Nat → Int32} {L : Int32} (hL : Lay t B) (h : KW R (64 * B) F) {x : Int32} (hx : ptr t x) (hR : ∀ y, y < 1536 → x = nI y → Yg t y → R y) : ∃ F', pX5_find (mkM t F D L) x = some (mkM t F' D L) ∧ KW R (64 * B) F' ∧ (∀ a, F a = 1 → F' a = 1) ∧ ∀ y, y < 1536 → x = nI y → Yg t y → F' y = 1 := by
  have hB := hL.1.2.1
  unfold pX5_find
  rcases hx with rfl | ⟨y, hy, rfl, hb6⟩
  · rw [if_pos rfl]
    exact ⟨F, rfl, h, fun _ e => e, fun y hy e => absurd e (neg1 (by omega))⟩
  · have hlt := th_lt hL hy hb6
    rw [if_neg (fun e => neg1 (a := y) (by omega) e.symm), ldA_n hy (by omega)]
    have e7 : (mkM t F D L).1 7 y = t.1 7 y := rfl
    rw [e7]
    rcases (hL.2.2.1 y hy).2 with h7 | h7
    · rw [if_pos h7, stZ_n hy (by omega) (Or.inr rfl), mkM_8]
      refine ⟨upd F y 1, rfl, ⟨fun a ha => ?_, fun a ha e => ?_⟩, fun a e => ?_, fun y' hy' e _ => ?_⟩
      · by_cases hay : a = y
        · subst hay; exact Or.inr pk_us
        · rw [pk_un hay]; exact h.1 a ha
      · by_cases hay : a = y
        · subst hay; exact hR a hy rfl ⟨hy, hb6, h7⟩
        · rw [pk_un hay] at e; exact h.2 a ha e
      · by_cases hay : a = y
        · subst hay; exact pk_us
        · rw [pk_un hay]; exact e
      · have : y = y' := (nI_eq (by omega) (by omega)).mp e
        subst this
        exact pk_us
    · rw [if_neg (by rw [h7]; decide)]
      refine ⟨F, rfl, h, fun _ e => e, fun y' hy' e hyg => ?_⟩
      have : y = y' := (nI_eq (by omega) (by omega)).mp e
      subst this
      have := hyg.2.2
      rw [h7] at this
      exact absurd this (by decide)
theorem FA2 {t : HS} {B a r : Nat} {all : Int32} {D : Nat → Int32} {L : Int32} (hL : Lay t B) (hrf : ivRef t) (ha : a < 1536) (h6 : t.1 6 a = 1) (hr : t.1 9 a = nI r) (hr2 : r ≤ 256) (he : a + r ≤ 1536) (hR : ∀ y, edge t a y → Yg t y → Reach t all y) : ∀ m i f F, i + m = r → m < f → KW (Reach t all) (64 * B) F → ∃ F', pX5_findAll_2 f (mkM t F D L) (nI a) (nI i) = some (mkM t F' D (L + t.1 9 a)) ∧ KW (Reach t all) (64 * B) F' ∧ (∀ b, F b = 1 → F' b = 1) ∧ ∀ k, i ≤ k → k < r → ∀ y, y < 1536 → t.1 5 (a + k) = nI y → Yg t y → F' y = 1 := by
  intro m
  induction m with
  | zero =>
    intro i f F hi hf h
    obtain ⟨f, rfl⟩ : ∃ g, f = g + 1 := ⟨f - 1, by omega⟩
    unfold pX5_findAll_2
    have e9 : (mkM t F D L).1 9 a = nI r := hr
    have e11 : (mkM t F D L).1 0 11 = L := rfl
    rw [ldA_n ha (by omega), ldA_n ha (by omega), e9, if_pos (nI_le (by omega) (by omega)), e11]
    unfold pfA
    rw [mkM_11, hr]
    exact ⟨F, rfl, h, fun _ e => e, fun k h1 h2 => by omega⟩
  | succ m ih =>
    intro i f F hi hf h
    obtain ⟨f, rfl⟩ : ∃ g, f = g + 1 := ⟨f - 1, by omega⟩
    unfold pX5_findAll_2
    have e9 : (mkM t F D L).1 9 a = nI r := hr
    have e5 : (mkM t F D L).1 5 (a + i) = t.1 5 (a + i) := rfl
    rw [ldA_n ha (by omega), e9, if_neg (nI_ge (by omega) (by omega)), nI_add, ldA_n (by omega) (by omega), e5]
    obtain ⟨F1, q1, q2, q3, q4⟩ := findM (D := D) (L := L) hL h (hrf a r i ha h6 hr hr2 (by omega)) (fun y hy e hyg => hR y ⟨r, i, hr, hr2, by omega, hy, e⟩ hyg)
    rw [q1, bd1_s, nI_1]
    obtain ⟨F2, p1, p2, p3, p4⟩ := ih (i + 1) f F1 (by omega) (by omega) q2
    refine ⟨F2, p1, p2, fun b e => p3 b (q3 b e), fun k k1 k2 y hy e hyg => ?_⟩
    by_cases hk : k = i
    · subst hk
      exact p3 y (q4 y hy e hyg)
    · exact p4 k (by omega) k2 y hy e hyg
theorem findAllM {t : HS} {B a : Nat} {all : Int32} {F D : Nat → Int32} {L : Int32} (hL : Lay t B) (hrf : ivRef t) (ha : a < 1536) (h6 : t.1 6 a = 1) (hR : ∀ y, edge t a y → Yg t y → Reach t all y) (h : KW (Reach t all) (64 * B) F) : ∃ F', pX5_findAll (mkM t F D L) (nI a) = some (mkM t F' D (L + t.1 9 a)) ∧ KW (Reach t all) (64 * B) F' ∧ (∀ b, F b = 1 → F' b = 1) ∧ ∀ y, edge t a y → Yg t y → F' y = 1 := by
  obtain ⟨r, m, a1, a2, a3, a4, a5⟩ := hL.2.2.2.2.1 a ha h6
  have hend := end_le hL.1 ha a5 a4 a3
  obtain ⟨F2, p1, p2, p3, p4⟩ := FA2 (D := D) (L := L) hL hrf ha h6 a1 (by omega) (by omega) hR r 0 FU F (by omega) (FU_ge (by omega)) h
  rw [nI_0] at p1
  refine ⟨F2, p1, p2, p3, fun y hy hyg => ?_⟩
  obtain ⟨r', i, g1, g2, g3, g4, g5⟩ := hy
  have : r' = r := (nI_eq (by omega) (by omega)).mp (g1.symm.trans a1)
  subst this
  exact p4 i (by omega) g3 y g4 g5 hyg
def KM (t : HS) (all : Int32) (B : Nat) (F D : Nat → Int32) : Prop := KW (Reach t all) (64 * B) F ∧ (∀ a, a < 64 * B → D a = 0 ∨ D a = 1) ∧ (∀ a, a < 64 * B → D a = 1 → F a = 1) ∧ ∀ a, a < 64 * B → D a = 1 → ∀ y, edge t a y → Yg t y → F y = 1
def dsum (t : HS) (D : Nat → Int32) (B : Nat) : Int32 := sm (fun a => if D a = 1 then t.1 9 a else 0) (64 * B)
theorem P163 {t : HS} {B : Nat} {all L : Int32} {K : HS → Int32 → Int32 → Option (Int32 × HS)} (hL : Lay t B) (hrf : ivRef t) : ∀ m i f F D mo, i + m = 64 * B → m < f → KM t all B F D → ∃ F' D' mo', pX5_collect_163 K f (mkM t F D (L + dsum t D B)) (nI (64 * B)) mo (nI i) = K (mkM t F' D' (L + dsum t D' B)) (nI (64 * B)) mo' ∧ KM t all B F' D' ∧ (∀ a, F a = 1 → F' a = 1) ∧ ((mo' = mo ∧ F' = F ∧ D' = D ∧ ∀ a, i ≤ a → a < 64 * B → F a = 1 → D a = 1) ∨ (mo' = 1 ∧ cnt (fun a => decide (D a = 1)) (64 * B) < cnt (fun a => decide (D' a = 1)) (64 * B))) := by
  have hB := hL.1.2.1
  intro m
  induction m with
  | zero =>
    intro i f F D mo hi hf h
    obtain ⟨f, rfl⟩ : ∃ g, f = g + 1 := ⟨f - 1, by omega⟩
    unfold pX5_collect_163
    rw [if_pos (nI_le (by omega) (by omega))]
    exact ⟨F, D, mo, rfl, h, fun _ e => e, Or.inl ⟨rfl, rfl, rfl, fun a h1 h2 => by omega⟩⟩
  | succ m ih =>
    intro i f F D mo hi hf h
    obtain ⟨f, rfl⟩ : ∃ g, f = g + 1 := ⟨f - 1, by omega⟩
    unfold pX5_collect_163
    have e8 : (mkM t F D (L + dsum t D B)).1 8 i = F i := rfl
    have e14 : (mkM t F D (L + dsum t D B)).1 14 i = D i := rfl
    rw [if_neg (nI_ge (by omega) (by omega)), ldA_n (by omega) (by omega), e8, ldA_n (by omega) (by omega), e14, nI_1]
    have skip : (F i = 1 → D i = 1) → ∃ F' D' mo', pX5_collect_163 K f (mkM t F D (L + dsum t D B)) (nI (64 * B)) mo (nI (i + 1)) = K (mkM t F' D' (L + dsum t D' B)) (nI (64 * B)) mo' ∧ KM t all B F' D' ∧ (∀ a, F a = 1 → F' a = 1) ∧ ((mo' = mo ∧ F' = F ∧ D' = D ∧ ∀ a, i ≤ a → a < 64 * B → F a = 1 → D a = 1) ∨ (mo' = 1 ∧ cnt (fun a => decide (D a = 1)) (64 * B) < cnt (fun a => decide (D' a = 1)) (64 * B))) := by
      intro hfd
      obtain ⟨F', D', mo', p1, p2, p3, p4⟩ := ih (i + 1) f F D mo (by omega) (by omega) h
      refine ⟨F', D', mo', p1, p2, p3, ?_⟩
      rcases p4 with ⟨q1, q2, q3, q4⟩ | q
      · refine Or.inl ⟨q1, q2, q3, fun a h1 h2 e => ?_⟩
        by_cases hai : a = i
        · subst hai; exact hfd e
        · exact q4 a (by omega) h2 e
      · exact Or.inr q
    rcases h.1.1 i (by omega) with hF | hF
    · rw [if_pos hF]
      exact skip (fun e => by rw [hF] at e; exact absurd e (by decide))
    · rw [if_neg (by rw [hF]; decide)]
      rcases h.2.1 i (by omega) with hD | hD
      · rw [if_pos hD, stZ_n (by omega) (by omega) (Or.inr rfl), mkM_14]
        have hre := h.1.2 i (by omega) hF
        have hyg := reach_yg hre
        obtain ⟨F1, q1, q2, q3, q4⟩ := findAllM (D := upd D i 1) (L := L + dsum t D B) hL hrf hyg.1 hyg.2.1 (fun y he hy => reach_step hre he hy) h.1
        rw [q1, bd1_s]
        have hs : L + dsum t D B + t.1 9 i = L + dsum t (upd D i 1) B := by
          unfold dsum
          rw [Int32.add_assoc]
          congr 1
          have := sm_upd (g := fun a => if D a = 1 then t.1 9 a else 0) (g' := fun a => if upd D i 1 a = 1 then t.1 9 a else 0) (64 * B) i (by omega) (fun j hj hn => by
            show (if upd D i 1 j = 1 then t.1 9 j else 0) = (if D j = 1 then t.1 9 j else 0)
            rw [pk_un hn]) (if_neg (by rw [hD]; decide))
          rw [this, if_pos pk_us]
        rw [hs]
        have hk : KM t all B F1 (upd D i 1) := by
          refine ⟨q2, fun a ha => ?_, fun a ha e => ?_, fun a ha e y hy hyg2 => ?_⟩
          · by_cases hai : a = i
            · subst hai; exact Or.inr pk_us
            · rw [pk_un hai]; exact h.2.1 a ha
          · by_cases hai : a = i
            · subst hai; exact q3 a hF
            · rw [pk_un hai] at e; exact q3 a (h.2.2.1 a ha e)
          · by_cases hai : a = i
            · subst hai; exact q4 y hy hyg2
            · rw [pk_un hai] at e; exact q3 y (h.2.2.2 a ha e y hy hyg2)
        obtain ⟨F', D', mo', p1, p2, p3, p4⟩ := ih (i + 1) f F1 (upd D i 1) 1 (by omega) (by omega) hk
        have hc : cnt (fun a => decide (upd D i 1 a = 1)) (64 * B) = cnt (fun a => decide (D a = 1)) (64 * B) + 1 := cnt_upd (64 * B) i (by omega) (decide_eq_false (by rw [hD]; decide)) (decide_eq_true pk_us) (fun j hj hn => by
          show decide (upd D i 1 j = 1) = decide (D j = 1)
          rw [pk_un hn])
        refine ⟨F', D', mo', p1, p2, fun a e => p3 a (q3 a e), Or.inr ?_⟩
        rcases p4 with ⟨z1, z2, z3, z4⟩ | ⟨z1, z2⟩
        · refine ⟨z1, ?_⟩
          rw [z3, hc]
          omega
        · exact ⟨z1, by omega⟩
      · rw [if_neg (by rw [hD]; decide)]
        exact skip (fun _ => hD)
theorem P154 {t : HS} {B : Nat} {all L : Int32} (hL : Lay t B) (hrf : ivRef t) : ∀ m f F D, 64 * B - cnt (fun a => decide (D a = 1)) (64 * B) ≤ m → m + 1 < f → KM t all B F D → ∃ F' D', pX5_collect_154 f (mkM t F D (L + dsum t D B)) (nI (64 * B)) 1 = pX5_collect_220 FU (mkM t F' D' (L + dsum t D' B)) (nI (64 * B)) 0 0 ∧ KM t all B F' D' ∧ (∀ a, F a = 1 → F' a = 1) ∧ ∀ a, a < 64 * B → F' a = 1 → D' a = 1 := by
  have hB := hL.1.2.1
  intro m
  induction m with
  | zero =>
    intro f F D hm hf h
    obtain ⟨f, rfl⟩ : ∃ g, f = g + 1 := ⟨f - 1, by omega⟩
    obtain ⟨g, rfl⟩ : ∃ g, f = g + 1 := ⟨f - 1, by omega⟩
    rw [pX5_collect_154, if_neg (by decide)]
    obtain ⟨F', D', mo', p1, p2, p3, p4⟩ := P163 (L := L) (K := pX5_collect_154 (g + 1)) hL hrf (64 * B) 0 FU F D 0 (by omega) (FU_ge (by omega)) h
    rw [nI_0] at p1
    rcases p4 with ⟨q1, q2, q3, q4⟩ | ⟨q1, q2⟩
    · rw [p1, q1, pX5_collect_154, if_pos rfl]
      refine ⟨F', D', rfl, p2, p3, fun a ha e => ?_⟩
      rw [q3]
      rw [q2] at e
      exact q4 a (by omega) ha e
    · have := cnt_le (fun a => decide (D' a = 1)) (64 * B)
      omega
  | succ m ih =>
    intro f F D hm hf h
    obtain ⟨f, rfl⟩ : ∃ g, f = g + 1 := ⟨f - 1, by omega⟩
    obtain ⟨g, rfl⟩ : ∃ g, f = g + 1 := ⟨f - 1, by omega⟩
    rw [pX5_collect_154, if_neg (by decide)]
    obtain ⟨F', D', mo', p1, p2, p3, p4⟩ := P163 (L := L) (K := pX5_collect_154 (g + 1)) hL hrf (64 * B) 0 FU F D 0 (by omega) (FU_ge (by omega)) h
    rw [nI_0] at p1
    rcases p4 with ⟨q1, q2, q3, q4⟩ | ⟨q1, q2⟩
    · rw [p1, q1, pX5_collect_154, if_pos rfl]
      refine ⟨F', D', rfl, p2, p3, fun a ha e => ?_⟩
      rw [q3]
      rw [q2] at e
      exact q4 a (by omega) ha e
    · rw [p1, q1]
      obtain ⟨F2, D2, r1, r2, r3, r4⟩ := ih (g + 1) F' D' (by omega) (by omega) p2
      exact ⟨F2, D2, r1, r2, fun a e => r3 a (p3 a e), r4⟩
