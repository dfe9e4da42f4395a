def Pg (A A' Fd Fd' : Nat → Int32) (n n' : Nat) : Prop := (∀ k, k < 768 → A k = 2 → A' k = 2) ∧ n ≤ n' ∧ ∀ j, j < n → Fd' j = Fd j
theorem Pg.rf {A Fd : Nat → Int32} {n : Nat} : Pg A A Fd Fd n n := ⟨fun _ _ h => h, Nat.le_refl n, fun _ _ => rfl⟩
theorem Pg.tr {A A' A'' Fd Fd' Fd'' : Nat → Int32} {n n' n'' : Nat} (h : Pg A A' Fd Fd' n n') (g : Pg A' A'' Fd' Fd'' n' n'') : Pg A A'' Fd Fd'' n n'' := ⟨fun k hk e => g.1 k hk (h.1 k hk e), Nat.le_trans h.2.1 g.2.1, fun j hj => (g.2.2 j (Nat.lt_of_lt_of_le hj h.2.1)).trans (h.2.2 j hj)⟩
theorem ptr_some {t : HS} {z : Int32} {y : Nat} (h : ptr t z) (e : z = nI y) (hy : y < 1536) : t.1 6 y = 1 := by
  rcases h with rfl | ⟨y', h1, h2, h3⟩
  · exact absurd e (neg1 (by omega))
  · rw [e] at h2
    have : y = y' := (nI_eq (by omega) (by omega)).mp h2
    subst this
    exact h3
theorem H29 {c t : HS} {B q : Nat} {all L : Int32} (hb : Bs c t B) (hq : q ≤ 24) (hd : t.1 0 1 = nI q) : ∀ m i f A Fd n, i + m = q → m < f → KI c (Reach t all) A Fd n → ∃ A' Fd' n', pX0_findHeld_29 f (mkC c A Fd (nI n) L) (nI i) = some (mkC c A' Fd' (nI n') L) ∧ KI c (Reach t all) A' Fd' n' ∧ Pg A A' Fd Fd' n n' ∧ ∀ k, i ≤ k → k < q → ∀ y, y < 1536 → pX5_points t (t.1 12 k) = some (nI y) → Yg t y → A' (y / 2) = 2 := by
  intro m
  induction m with
  | zero =>
    intro i f A Fd n hi hf h
    obtain ⟨f, rfl⟩ : ∃ g, f = g + 1 := ⟨f - 1, by omega⟩
    unfold pX0_findHeld_29
    have e5 : (mkC c A Fd (nI n) L).1 0 5 = nI q := hb.2.2.2.2.2.trans hd
    rw [e5, if_pos (nI_le (by omega) (by omega))]
    exact ⟨A, Fd, n, rfl, h, Pg.rf, fun k h1 h2 => by omega⟩
  | succ m ih =>
    intro i f A Fd n hi hf h
    obtain ⟨f, rfl⟩ : ∃ g, f = g + 1 := ⟨f - 1, by omega⟩
    unfold pX0_findHeld_29
    have e5 : (mkC c A Fd (nI n) L).1 0 5 = nI q := hb.2.2.2.2.2.trans hd
    have e11 : (mkC c A Fd (nI n) L).1 11 i = t.1 12 i := hb.2.2.2.2.1 i (by omega)
    obtain ⟨z, z1, z2, z3⟩ := pts (ki_geo (N := nI n) (L := L) hb h) (t.1 12 i)
    rw [e5, if_neg (nI_ge (by omega) (by omega)), ldA_n (by omega) (by omega), e11, z1, bd1_s]
    obtain ⟨A1, F1, n1, q1, q2, q3, q4, q5, q6⟩ := findC (L := L) hb h z3 (fun y hy e hyg => reach_seed (Or.inr (Or.inl ⟨i, q, hd, hq, by omega, by rw [z2, e]⟩)) hyg)
    rw [q1, bd1_s, nI_1]
    obtain ⟨A2, F2, n2, p1, p2, p3, p4⟩ := ih (i + 1) f A1 F1 n1 (by omega) (by omega) q2
    refine ⟨A2, F2, n2, p1, p2, Pg.tr ⟨q3, q4, q5⟩ p3, fun k k1 k2 y hy e hyg => ?_⟩
    by_cases hk : k = i
    · subst hk
      have ez : z = nI y := Option.some.inj (z2.symm.trans e)
      exact p3.1 _ (by omega) (q6 y hy ez hyg)
    · exact p4 k (by omega) k2 y hy e hyg
theorem H2 {c t : HS} {B q : Nat} {all L : Int32} (hb : Bs c t B) (hq : q ≤ 24) (hd : t.1 0 1 = nI q) (hrt : ivRoot t) : ∀ m i f A Fd n, i + m = 10 → m < f → KI c (Reach t all) A Fd n → ∃ A' Fd' n', pX0_findHeld_2 f (mkC c A Fd (nI n) L) (nI i) = some (mkC c A' Fd' (nI n') L) ∧ KI c (Reach t all) A' Fd' n' ∧ Pg A A' Fd Fd' n n' ∧ (∀ k, i ≤ k → k < 10 → ∀ y, y < 1536 → t.1 11 k = nI y → Yg t y → A' (y / 2) = 2) ∧ ∀ k, k < q → ∀ y, y < 1536 → pX5_points t (t.1 12 k) = some (nI y) → Yg t y → A' (y / 2) = 2 := by
  intro m
  induction m with
  | zero =>
    intro i f A Fd n hi hf h
    obtain ⟨f, rfl⟩ : ∃ g, f = g + 1 := ⟨f - 1, by omega⟩
    unfold pX0_findHeld_2
    rw [l10, if_pos (nI_le (by omega) (by omega))]
    obtain ⟨A2, F2, n2, p1, p2, p3, p4⟩ := H29 (L := L) hb hq hd q 0 FU A Fd n (by omega) (FU_ge (by omega)) h
    rw [nI_0] at p1
    exact ⟨A2, F2, n2, p1, p2, p3, fun k h1 h2 => by omega, fun k hk => p4 k (by omega) hk⟩
  | succ m ih =>
    intro i f A Fd n hi hf h
    obtain ⟨f, rfl⟩ : ∃ g, f = g + 1 := ⟨f - 1, by omega⟩
    unfold pX0_findHeld_2
    have e10 : (mkC c A Fd (nI n) L).1 10 i = t.1 11 i := hb.2.2.2.1 i (by omega)
    rw [l10, if_neg (nI_ge (by omega) (by omega)), ldA_n (by omega) (by omega), e10]
    obtain ⟨A1, F1, n1, q1, q2, q3, q4, q5, q6⟩ := findC (L := L) hb h (hrt i (by omega)) (fun y hy e hyg => reach_seed (Or.inl ⟨i, by omega, e⟩) hyg)
    rw [q1, bd1_s, nI_1]
    obtain ⟨A2, F2, n2, p1, p2, p3, p4, p5⟩ := ih (i + 1) f A1 F1 n1 (by omega) (by omega) q2
    refine ⟨A2, F2, n2, p1, p2, Pg.tr ⟨q3, q4, q5⟩ p3, fun k k1 k2 y hy e hyg => ?_, p5⟩
    by_cases hk : k = i
    · subst hk
      exact p3.1 _ (by omega) (q6 y hy e hyg)
    · exact p4 k (by omega) k2 y hy e hyg
theorem C11 {c t : HS} {B a r k0 : Nat} {all L : Int32} (hb : Bs c t B) (hrf : ivRef t) (ha : a < 1536) (h6 : t.1 6 a = 1) (hr : t.1 9 a = nI r) (hr2 : r ≤ 256) (he : a + r ≤ 1536) (hR : ∀ y, edge t a y → Yg t y → Reach t all y) : ∀ m i f A Fd n, i + m = r → m < f → KI c (Reach t all) A Fd n → ∃ A' Fd' n', pX0_lookAt_11 f (mkC c A Fd (nI n) L) (nI a) (nI r) (nI i) = some (mkC c A' Fd' (nI n') (L + nI r)) ∧ KI c (Reach t all) A' Fd' n' ∧ Pg A A' Fd Fd' n n' ∧ ∀ k, i ≤ k → k < r → ∀ y, y < 1536 → t.1 5 (a + k) = nI y → Yg t y → A' (y / 2) = 2 := by
  intro m
  induction m with
  | zero =>
    intro i f A Fd n hi hf h
    obtain ⟨f, rfl⟩ : ∃ g, f = g + 1 := ⟨f - 1, by omega⟩
    unfold pX0_lookAt_11 pfA
    have e10 : (mkC c A Fd (nI n) L).1 0 10 = L := rfl
    rw [if_pos (nI_le (by omega) (by omega)), e10, mkC_10]
    exact ⟨A, Fd, n, rfl, h, Pg.rf, fun k h1 h2 => by omega⟩
  | succ m ih =>
    intro i f A Fd n hi hf h
    obtain ⟨f, rfl⟩ : ∃ g, f = g + 1 := ⟨f - 1, by omega⟩
    unfold pX0_lookAt_11
    have e4 : (mkC c A Fd (nI n) L).1 4 (a + i) = t.1 5 (a + i) := hb.1.2.2.2.2.2.2 (a + i) (by omega)
    rw [if_neg (nI_ge (by omega) (by omega)), nI_add, ldA_n (by omega) (by omega), e4]
    obtain ⟨A1, F1, n1, q1, q2, q3, q4, q5, q6⟩ := findC (L := L) hb h (hrf a r i ha h6 hr hr2 (by omega)) (fun y hy e hyg => hR y ⟨r, i, hr, hr2, by omega, hy, e⟩ hyg)
    rw [q1, bd1_s, nI_1]
    obtain ⟨A2, F2, n2, p1, p2, p3, p4⟩ := ih (i + 1) f A1 F1 n1 (by omega) (by omega) q2
    refine ⟨A2, F2, n2, p1, p2, Pg.tr ⟨q3, q4, q5⟩ p3, fun k k1 k2 y hy e hyg => ?_⟩
    by_cases hk : k = i
    · subst hk
      exact p3.1 _ (by omega) (q6 y hy e hyg)
    · exact p4 k (by omega) k2 y hy e hyg
theorem lookC {c t : HS} {B a n : Nat} {all L : Int32} {A Fd : Nat → Int32} (hb : Bs c t B) (hrf : ivRef t) (ha : a < 1536) (h6 : t.1 6 a = 1) (hR : ∀ y, edge t a y → Yg t y → Reach t all y) (h : KI c (Reach t all) A Fd n) : ∃ A' Fd' n', pX0_lookAt (mkC c A Fd (nI n) L) (nI a) = some (mkC c A' Fd' (nI n') (L + t.1 9 a)) ∧ KI c (Reach t all) A' Fd' n' ∧ Pg A A' Fd Fd' n n' ∧ ∀ y, edge t a y → Yg t y → A' (y / 2) = 2 := by
  have hG : Geo (mkC c A Fd (nI n) L) t B := ki_geo hb h
  obtain ⟨r, m, a1, a2, a3, a4, a5, a6, a7, a8, a9, a10⟩ := geo_rn hG ha h6
  have hend := end_le hb.1.2.1.1 ha a5 a4 a3
  obtain ⟨A2, F2, n2, p1, p2, p3, p4⟩ := C11 (k0 := 0) (L := L) hb hrf ha h6 a1 (by omega) (by omega) hR r 0 FU A Fd n (by omega) (FU_ge (by omega)) h
  rw [nI_0] at p1
  unfold pX0_lookAt
  rw [referencesOf_t hG.1 a9, bd1_s, a6, a1]
  refine ⟨A2, F2, n2, p1, p2, p3, fun y hy hyg => ?_⟩
  obtain ⟨r', i, g1, g2, g3, g4, g5⟩ := hy
  have : r' = r := (nI_eq (by omega) (by omega)).mp (g1.symm.trans a1)
  subst this
  exact p4 i (by omega) g3 y g4 g5 hyg
theorem ki_rm {c t : HS} {B n : Nat} {R : Nat → Prop} {A Fd : Nat → Int32} {N L : Int32} (hb : Bs c t B) (h : KI c R A Fd n) : Rm (mkC c A Fd N L) t ∧ oldIff (mkC c A Fd N L) t := by
  refine ⟨hb.2.1, fun a ha he h6 => ?_⟩
  show A (a / 2) = 3 ↔ t.1 7 a = 1
  rw [← oldIff_of hb.2.2.1 a ha he h6]
  rcases h.2.1 (a / 2) (by omega) with e | ⟨e1, e2, -⟩
  · rw [e]
  · rw [e1, e2]; decide
noncomputable def rl (t : HS) (a : Nat) : Int32 := if PB (Pr t a) then t.1 9 a else 0
theorem R2 {c t : HS} {B : Nat} {L : Int32} (hb : Bs c t B) (hrf : ivRef t) : ∀ m i f A Fd n, i + m = 32 * B → m < f → KI c (Reach t 0) A Fd n → ∃ A' Fd' n', pX0_findRemembered_2 f (mkC c A Fd (nI n) (L + sm (fun k => rl t (2 * k)) i)) (nI (2 * i)) = some (mkC c A' Fd' (nI n') (L + sm (fun k => rl t (2 * k)) (32 * B))) ∧ KI c (Reach t 0) A' Fd' n' ∧ Pg A A' Fd Fd' n n' ∧ ∀ k, i ≤ k → k < 32 * B → Pr t (2 * k) → ∀ y, edge t (2 * k) y → Yg t y → A' (y / 2) = 2 := by
  have hB := hb.1.1.2.1
  intro m
  induction m with
  | zero =>
    intro i f A Fd n hi hf h
    obtain ⟨f, rfl⟩ : ∃ g, f = g + 1 := ⟨f - 1, by omega⟩
    unfold pX0_findRemembered_2
    have e1 : (mkC c A Fd (nI n) (L + sm (fun k => rl t (2 * k)) i)).1 0 1 = nI (64 * B) := hb.1.1.2.2.2
    rw [e1, if_pos (nI_le (by omega) (by omega)), show i = 32 * B by omega]
    exact ⟨A, Fd, n, rfl, h, Pg.rf, fun k h1 h2 => by omega⟩
  | succ m ih =>
    intro i f A Fd n hi hf h
    obtain ⟨f, rfl⟩ : ∃ g, f = g + 1 := ⟨f - 1, by omega⟩
    unfold pX0_findRemembered_2
    have e1 : (mkC c A Fd (nI n) (L + sm (fun k => rl t (2 * k)) i)).1 0 1 = nI (64 * B) := hb.1.1.2.2.2
    obtain ⟨hrm, hol⟩ := ki_rm (N := nI n) (L := L + sm (fun k => rl t (2 * k)) i) hb h
    have hc := counts_Pr (ki_geo (N := nI n) (L := L + sm (fun k => rl t (2 * k)) i) hb h) hrm hol (a := 2 * i) (by omega)
    rw [e1, if_neg (nI_ge (by omega) (by omega)), l2, nI_add, show 2 * i + 2 = 2 * (i + 1) by omega]
    have es : sm (fun k => rl t (2 * k)) (i + 1) = sm (fun k => rl t (2 * k)) i + rl t (2 * i) := rfl
    by_cases hp : Pr t (2 * i)
    · rw [hc.1 hp, bd1_s, if_neg (by decide)]
      obtain ⟨A1, F1, n1, q1, q2, q3, q4⟩ := lookC (all := 0) (L := L + sm (fun k => rl t (2 * k)) i) hb hrf (by omega) hp.1 (fun y he hyg => reach_seed (Or.inr (Or.inr ⟨rfl, 2 * i, by omega, hp, he⟩)) hyg) h
      rw [q1, bd1_s]
      have er : rl t (2 * i) = t.1 9 (2 * i) := by unfold rl; rw [PB_t hp]; rfl
      obtain ⟨A2, F2, n2, p1, p2, p3, p4⟩ := ih (i + 1) f A1 F1 n1 (by omega) (by omega) q2
      rw [es, er, ← Int32.add_assoc] at p1
      refine ⟨A2, F2, n2, p1, p2, Pg.tr q3 p3, fun k k1 k2 hpk y hy hyg => ?_⟩
      by_cases hk : k = i
      · subst hk
        exact p3.1 _ (by have := hyg.1; omega) (q4 y hy hyg)
      · exact p4 k (by omega) k2 hpk y hy hyg
    · rw [hc.2 hp, bd1_s, if_pos rfl]
      have er : rl t (2 * i) = 0 := by unfold rl; rw [PB_f hp]; rfl
      obtain ⟨A2, F2, n2, p1, p2, p3, p4⟩ := ih (i + 1) f A Fd n (by omega) (by omega) h
      rw [es, er, Int32.add_zero] at p1
      refine ⟨A2, F2, n2, p1, p2, p3, fun k k1 k2 hpk y hy hyg => ?_⟩
      by_cases hk : k = i
      · subst hk; exact absurd hpk hp
      · exact p4 k (by omega) k2 hpk y hy hyg
theorem F2 {c t : HS} {B : Nat} {all L : Int32} (hb : Bs c t B) (hrf : ivRef t) : ∀ m i f A Fd n, i + m = 768 → m < f → i ≤ n → KI c (Reach t all) A Fd n → (∀ j, j < i → ∀ a, a < 1536 → Fd j = nI a → ∀ y, edge t a y → Yg t y → A (y / 2) = 2) → ∃ A' Fd' n', pX0_findReferred_2 f (mkC c A Fd (nI n) (L + sm (fun j => c.1 5 ((Fd j).toNatClampNeg / 2)) i)) (nI i) = some (mkC c A' Fd' (nI n') (L + sm (fun j => c.1 5 ((Fd' j).toNatClampNeg / 2)) n')) ∧ KI c (Reach t all) A' Fd' n' ∧ Pg A A' Fd Fd' n n' ∧ ∀ j, j < n' → ∀ a, a < 1536 → Fd' j = nI a → ∀ y, edge t a y → Yg t y → A' (y / 2) = 2 := by
  intro m
  induction m with
  | zero =>
    intro i f A Fd n hi hf hin h hcl
    obtain ⟨f, rfl⟩ : ∃ g, f = g + 1 := ⟨f - 1, by omega⟩
    have hn := h.1
    have e : i = n := by omega
    subst e
    unfold pX0_findReferred_2
    have e6 : (mkC c A Fd (nI i) (L + sm (fun j => c.1 5 ((Fd j).toNatClampNeg / 2)) i)).1 0 6 = nI i := rfl
    rw [e6, if_pos (nI_le (Nat.le_refl i) (by omega))]
    exact ⟨A, Fd, i, rfl, h, Pg.rf, hcl⟩
  | succ m ih =>
    intro i f A Fd n hi hf hin h hcl
    obtain ⟨f, rfl⟩ : ∃ g, f = g + 1 := ⟨f - 1, by omega⟩
    have hn := h.1
    unfold pX0_findReferred_2
    have e6 : (mkC c A Fd (nI n) (L + sm (fun j => c.1 5 ((Fd j).toNatClampNeg / 2)) i)).1 0 6 = nI n := rfl
    rw [e6]
    by_cases hlt : n ≤ i
    · have e : i = n := by omega
      subst e
      rw [if_pos (nI_le (Nat.le_refl i) (by omega))]
      exact ⟨A, Fd, i, rfl, h, Pg.rf, hcl⟩
    · rw [if_neg (nI_ge (by omega) (by omega)), l768, if_neg (nI_ge (by omega) (by omega)), ldA_n (by omega) (by omega)]
      have e12 : (mkC c A Fd (nI n) (L + sm (fun j => c.1 5 ((Fd j).toNatClampNeg / 2)) i)).1 12 i = Fd i := rfl
      obtain ⟨k, g1, g2, g3⟩ := h.2.2.2.1 i (by omega)
      have hre : Reach t all (2 * k) := by
        rcases h.2.1 k g1 with e | ⟨-, -, e⟩
        · rcases hb.2.2.1 k g1 with q | q | q <;> rw [← e, g3] at q <;> exact absurd q.1 (by decide)
        · exact e
      have hyg := reach_yg hre
      obtain ⟨A1, F1, n1, q1, q2, q3, q4⟩ := lookC (all := all) (L := L + sm (fun j => c.1 5 ((Fd j).toNatClampNeg / 2)) i) hb hrf hyg.1 hyg.2.1 (fun y he hy => reach_step hre he hy) h
      rw [e12, g2, q1, bd1_s, nI_1]
      have hfi : F1 i = nI (2 * k) := (q3.2.2 i (by omega)).trans g2
      have hrn := (hb.1.2.2.2.2.2.1 k g1).1
      have es : L + sm (fun j => c.1 5 ((F1 j).toNatClampNeg / 2)) (i + 1) = L + sm (fun j => c.1 5 ((Fd j).toNatClampNeg / 2)) i + t.1 9 (2 * k) := by
        show L + (sm (fun j => c.1 5 ((F1 j).toNatClampNeg / 2)) i + c.1 5 ((F1 i).toNatClampNeg / 2)) = _
        rw [hfi, nI_clamp (by omega), show 2 * k / 2 = k by omega, hrn, sm_congr i (g := fun j => c.1 5 ((Fd j).toNatClampNeg / 2)) (fun j hj => by rw [q3.2.2 j (by omega)]), Int32.add_assoc]
      obtain ⟨A2, F2, n2, p1, p2, p3, p4⟩ := ih (i + 1) f A1 F1 n1 (by omega) (by omega) (by have := q3.2.1; omega) q2 (fun j hj a ha e y hy hyg2 => by
        by_cases hji : j = i
        · subst hji
          rw [hfi] at e
          have : 2 * k = a := (nI_eq (by omega) (by omega)).mp e
          subst this
          exact q4 y hy hyg2
        · rw [q3.2.2 j (by omega)] at e
          exact q3.1 _ (by have := hyg2.1; omega) (hcl j (by omega) a ha e y hy hyg2))
      rw [es] at p1
      exact ⟨A2, F2, n2, p1, p2, Pg.tr q3 p3, p4⟩
