theorem ldA_row {α : Type} {s t : HS} {k N : Nat} {i : Int32} {K : Int32 → Option α} (h : s.1 k = t.1 k) : ldA s k N i K = ldA t k N i K := by unfold ldA; rw [h]
theorem p74_same {s t : HS} (h : s.1 1 = t.1 1) : ∀ f b, pX5_points_74 s f b = pX5_points_74 t f b := by
  intro f
  induction f with
  | zero => intro b; rfl
  | succ f ih =>
    intro b
    unfold pX5_points_74
    rw [ldA_row h]
    simp only [ih]
theorem points_same {s t : HS} (h0 : s.1 0 0 = t.1 0 0) (h1 : s.1 1 = t.1 1) (h2 : s.1 2 = t.1 2) (h6 : s.1 6 = t.1 6) (w : Int32) : pX5_points s w = pX5_points t w := by
  unfold pX5_points
  rw [h0]
  simp only [ldA_row h1, ldA_row h2, ldA_row h6, p74_same h1]
theorem km_0 {t : HS} {all : Int32} {B : Nat} {F D : Nat → Int32} (h : KW (Reach t all) (64 * B) F) (hD : ∀ a, a < 64 * B → D a = 0) : KM t all B F D ∧ dsum t D B = 0 := by
  have n1 : ∀ a, a < 64 * B → ¬ D a = 1 := fun a ha e => by rw [hD a ha] at e; exact absurd e (by decide)
  exact ⟨⟨h, fun a ha => Or.inl (hD a ha), fun a ha e => absurd e (n1 a ha), fun a ha e => absurd e (n1 a ha)⟩, sm_zero _ (fun a ha => if_neg (n1 a ha))⟩
theorem P124 {t : HS} {B q : Nat} {all L : Int32} {D : Nat → Int32} (hL : Lay t B) (hrf : ivRef t) (hD : ∀ a, a < 64 * B → D a = 0) (hq : q ≤ 24) (hd : t.1 0 1 = nI q) (hpt : ∀ w, ∃ z, pX5_points t w = some z ∧ ptr t z) : ∀ m i f F, i + m = q → m < f → KW (Reach t all) (64 * B) F → ∃ F' D', pX5_collect_124 f (mkM t F D L) (nI (64 * B)) (nI i) = pX5_collect_220 FU (mkM t F' D' (L + dsum t D' B)) (nI (64 * B)) 0 0 ∧ KM t all B F' D' ∧ (∀ a, F a = 1 → F' a = 1) ∧ (∀ a, a < 64 * B → F' a = 1 → D' a = 1) ∧ ∀ k, i ≤ k → k < q → ∀ y, y < 1536 → pX5_points t (t.1 12 k) = some (nI y) → Yg t y → F' y = 1 := by
  have hB := hL.1.2.1
  intro m
  induction m with
  | zero =>
    intro i f F hi hf h
    obtain ⟨f, rfl⟩ : ∃ g, f = g + 1 := ⟨f - 1, by omega⟩
    unfold pX5_collect_124
    have e1 : (mkM t F D L).1 0 1 = nI q := hd
    rw [e1, if_pos (nI_le (by omega) (by omega))]
    obtain ⟨k1, k2⟩ := km_0 h hD
    obtain ⟨F2, D2, r1, r2, r3, r4⟩ := P154 (L := L) hL hrf (64 * B) FU F D (Nat.sub_le _ _) (FU_ge (by omega)) k1
    rw [k2, Int32.add_zero] at r1
    exact ⟨F2, D2, r1, r2, r3, r4, fun k h1 h2 => by omega⟩
  | succ m ih =>
    intro i f F hi hf h
    obtain ⟨f, rfl⟩ : ∃ g, f = g + 1 := ⟨f - 1, by omega⟩
    unfold pX5_collect_124
    have e1 : (mkM t F D L).1 0 1 = nI q := hd
    have e12 : (mkM t F D L).1 12 i = t.1 12 i := rfl
    obtain ⟨z, z1, z2⟩ := hpt (t.1 12 i)
    have r1 : (mkM t F D L).1 0 0 = t.1 0 0 := rfl
    have r2 : (mkM t F D L).1 1 = t.1 1 := rfl
    have r3 : (mkM t F D L).1 2 = t.1 2 := rfl
    have r4 : (mkM t F D L).1 6 = t.1 6 := rfl
    have z1' : pX5_points (mkM t F D L) (t.1 12 i) = some z := (points_same r1 r2 r3 r4 (t.1 12 i)).trans z1
    rw [e1, if_neg (nI_ge (by omega) (by omega)), ldA_n (by omega) (by omega), e12, z1', bd1_s]
    obtain ⟨F1, q1, q2, q3, q4⟩ := findM (D := D) (L := L) hL h z2 (fun y hy e hyg => reach_seed (Or.inr (Or.inl ⟨i, q, hd, hq, by omega, by rw [z1, e]⟩)) hyg)
    rw [q1, bd1_s, nI_1]
    obtain ⟨F2, D2, p1, p2, p3, p4, p5⟩ := ih (i + 1) f F1 (by omega) (by omega) q2
    refine ⟨F2, D2, p1, p2, fun a e => p3 a (q3 a e), p4, fun k k1 k2 y hy e hyg => ?_⟩
    by_cases hk : k = i
    · subst hk
      exact p3 y (q4 y hy (Option.some.inj (z1.symm.trans e)) hyg)
    · exact p5 k (by omega) k2 y hy e hyg
theorem P100 {t : HS} {B q : Nat} {all L : Int32} {D : Nat → Int32} (hL : Lay t B) (hrf : ivRef t) (hrt : ivRoot t) (hD : ∀ a, a < 64 * B → D a = 0) (hq : q ≤ 24) (hd : t.1 0 1 = nI q) (hpt : ∀ w, ∃ z, pX5_points t w = some z ∧ ptr t z) : ∀ m i f F, i + m = 10 → m < f → KW (Reach t all) (64 * B) F → ∃ F' D', pX5_collect_100 f (mkM t F D L) (nI (64 * B)) (nI i) = pX5_collect_220 FU (mkM t F' D' (L + dsum t D' B)) (nI (64 * B)) 0 0 ∧ KM t all B F' D' ∧ (∀ a, F a = 1 → F' a = 1) ∧ (∀ a, a < 64 * B → F' a = 1 → D' a = 1) ∧ (∀ k, i ≤ k → k < 10 → ∀ y, y < 1536 → t.1 11 k = nI y → Yg t y → F' y = 1) ∧ ∀ k, k < q → ∀ y, y < 1536 → pX5_points t (t.1 12 k) = some (nI y) → Yg t y → F' y = 1 := by
  intro m
  induction m with
  | zero =>
    intro i f F hi hf h
    obtain ⟨f, rfl⟩ : ∃ g, f = g + 1 := ⟨f - 1, by omega⟩
    unfold pX5_collect_100
    rw [l10, if_pos (nI_le (by omega) (by omega))]
    obtain ⟨F2, D2, p1, p2, p3, p4, p5⟩ := P124 (L := L) hL hrf hD hq hd hpt q 0 FU F (by omega) (FU_ge (by omega)) h
    rw [nI_0] at p1
    exact ⟨F2, D2, p1, p2, p3, p4, fun k h1 h2 => by omega, fun k hk => p5 k (by omega) hk⟩
  | succ m ih =>
    intro i f F hi hf h
    obtain ⟨f, rfl⟩ : ∃ g, f = g + 1 := ⟨f - 1, by omega⟩
    unfold pX5_collect_100
    have e11 : (mkM t F D L).1 11 i = t.1 11 i := rfl
    rw [l10, if_neg (nI_ge (by omega) (by omega)), ldA_n (by omega) (by omega), e11]
    obtain ⟨F1, q1, q2, q3, q4⟩ := findM (D := D) (L := L) hL h (hrt i (by omega)) (fun y hy e hyg => reach_seed (Or.inl ⟨i, by omega, e⟩) hyg)
    rw [q1, bd1_s, nI_1]
    obtain ⟨F2, D2, p1, p2, p3, p4, p5, p6⟩ := ih (i + 1) f F1 (by omega) (by omega) q2
    refine ⟨F2, D2, p1, p2, fun a e => p3 a (q3 a e), p4, fun k k1 k2 y hy e hyg => ?_, p6⟩
    by_cases hk : k = i
    · subst hk
      exact p3 y (q4 y hy e hyg)
    · exact p5 k (by omega) k2 y hy e hyg
theorem P61 {t : HS} {B q : Nat} {L : Int32} {D : Nat → Int32} (hL : Lay t B) (hrf : ivRef t) (hrt : ivRoot t) (hsc : ivSc t) (hD : ∀ a, a < 64 * B → D a = 0) (hq : q ≤ 24) (hd : t.1 0 1 = nI q) (hpt : ∀ w, ∃ z, pX5_points t w = some z ∧ ptr t z) : ∀ m i f F, i + m = 64 * B → m < f → KW (Reach t 0) (64 * B) F → ∃ F' D', pX5_collect_61 f (mkM t F D (L + sm (rl t) i)) 0 (nI (64 * B)) (nI i) = pX5_collect_220 FU (mkM t F' D' (L + sm (rl t) (64 * B) + dsum t D' B)) (nI (64 * B)) 0 0 ∧ KM t 0 B F' D' ∧ (∀ a, F a = 1 → F' a = 1) ∧ (∀ a, a < 64 * B → F' a = 1 → D' a = 1) ∧ (∀ k, k < 10 → ∀ y, y < 1536 → t.1 11 k = nI y → Yg t y → F' y = 1) ∧ (∀ k, k < q → ∀ y, y < 1536 → pX5_points t (t.1 12 k) = some (nI y) → Yg t y → F' y = 1) ∧ ∀ b, i ≤ b → b < 64 * B → Pr t b → ∀ y, edge t b y → Yg t y → F' y = 1 := by
  have hB := hL.1.2.1
  intro m
  induction m with
  | zero =>
    intro i f F hi hf h
    obtain ⟨f, rfl⟩ : ∃ g, f = g + 1 := ⟨f - 1, by omega⟩
    unfold pX5_collect_61
    rw [if_pos (nI_le (by omega) (by omega)), show i = 64 * B by omega]
    obtain ⟨F2, D2, p1, p2, p3, p4, p5, p6⟩ := P100 (L := L + sm (rl t) (64 * B)) hL hrf hrt hD hq hd hpt 10 0 FU F (by omega) (FU_ge (by omega)) h
    rw [nI_0] at p1
    exact ⟨F2, D2, p1, p2, p3, p4, fun k hk => p5 k (by omega) hk, p6, fun b h1 h2 => by omega⟩
  | succ m ih =>
    intro i f F hi hf h
    obtain ⟨f, rfl⟩ : ∃ g, f = g + 1 := ⟨f - 1, by omega⟩
    unfold pX5_collect_61
    have e6 : (mkM t F D (L + sm (rl t) i)).1 6 i = t.1 6 i := rfl
    rw [if_neg (nI_ge (by omega) (by omega)), if_pos rfl, ldA_n (by omega) (by omega), e6, nI_1]
    have es : sm (rl t) (i + 1) = sm (rl t) i + rl t i := rfl
    have skip : ¬ Pr t i → ∃ F' D', pX5_collect_61 f (mkM t F D (L + sm (rl t) i)) 0 (nI (64 * B)) (nI (i + 1)) = pX5_collect_220 FU (mkM t F' D' (L + sm (rl t) (64 * B) + dsum t D' B)) (nI (64 * B)) 0 0 ∧ KM t 0 B F' D' ∧ (∀ a, F a = 1 → F' a = 1) ∧ (∀ a, a < 64 * B → F' a = 1 → D' a = 1) ∧ (∀ k, k < 10 → ∀ y, y < 1536 → t.1 11 k = nI y → Yg t y → F' y = 1) ∧ (∀ k, k < q → ∀ y, y < 1536 → pX5_points t (t.1 12 k) = some (nI y) → Yg t y → F' y = 1) ∧ ∀ b, i ≤ b → b < 64 * B → Pr t b → ∀ y, edge t b y → Yg t y → F' y = 1 := by
      intro hp
      have er : rl t i = 0 := by unfold rl; rw [PB_f hp]; rfl
      obtain ⟨F2, D2, p1, p2, p3, p4, p5, p6, p7⟩ := ih (i + 1) f F (by omega) (by omega) h
      rw [es, er, Int32.add_zero] at p1
      refine ⟨F2, D2, p1, p2, p3, p4, p5, p6, fun b b1 b2 hpb y hy hyg => ?_⟩
      by_cases hbi : b = i
      · subst hbi; exact absurd hpb hp
      · exact p7 b (by omega) b2 hpb y hy hyg
    rcases beg01 hL (a := i) (by omega) with h0 | h0
    · rw [if_pos h0]
      exact skip (fun hp => by have h9 := hp.1; rw [h0] at h9; exact absurd h9 (by decide))
    · rw [if_neg (by rw [h0]; decide)]
      have hc := isRem_Pr (t := mkM t F D (L + sm (rl t) i)) (B := B) hL hsc (a := i) (by omega) h0
      by_cases hp : Pr t i
      · rw [hc.1 hp, bd1_s, if_neg (by decide)]
        obtain ⟨F1, q1, q2, q3, q4⟩ := findAllM (all := 0) (D := D) (L := L + sm (rl t) i) hL hrf (by omega) h0 (fun y he hy => reach_seed (Or.inr (Or.inr ⟨rfl, i, by omega, hp, he⟩)) hy) h
        rw [q1, bd1_s]
        have er : rl t i = t.1 9 i := by unfold rl; rw [PB_t hp]; rfl
        obtain ⟨F2, D2, p1, p2, p3, p4, p5, p6, p7⟩ := ih (i + 1) f F1 (by omega) (by omega) q2
        rw [es, er, ← Int32.add_assoc] at p1
        refine ⟨F2, D2, p1, p2, fun a e => p3 a (q3 a e), p4, p5, p6, fun b b1 b2 hpb y hy hyg => ?_⟩
        by_cases hbi : b = i
        · subst hbi; exact p3 y (q4 y hy hyg)
        · exact p7 b (by omega) b2 hpb y hy hyg
      · rw [hc.2 hp, bd1_s, if_pos rfl]
        exact skip hp
theorem hs_same (c : HS) (k i : Nat) : hs c k i (c.1 k i) = c := by
  refine hs_ext (fun k' j => ?_) rfl
  by_cases h : k' = k
  · subst h
    rw [hs_eq]
    split
    · next h => rw [h]
    · rfl
  · rw [hs_nk h]
theorem P10y {t : HS} {E : Nat} (hE : E ≤ 1536) (h01 : ∀ a, a < 1536 → t.1 7 a = 0 ∨ t.1 7 a = 1) : ∀ m i f, i + m = E → m < f → pX5_collect_10 f (hfill (hfill t 8 i 0) 14 i 0) 0 (nI E) (nI i) = pX5_collect_61 FU (hfill (hfill t 8 E 0) 14 E 0) 0 (nI E) 0 := by
  intro m
  induction m with
  | zero =>
    intro i f hi hf
    obtain ⟨f, rfl⟩ : ∃ g, f = g + 1 := ⟨f - 1, by omega⟩
    unfold pX5_collect_10
    rw [if_pos (nI_le (by omega) (by omega)), show i = E by omega]
  | succ m ih =>
    intro i f hi hf
    obtain ⟨f, rfl⟩ : ∃ g, f = g + 1 := ⟨f - 1, by omega⟩
    unfold pX5_collect_10
    rw [if_neg (nI_ge (by omega) (by omega)), stZ_n (by omega) (by omega) (Or.inl rfl), stZ_n (by omega) (by omega) (Or.inl rfl), hs_hf (by decide), hf_step, hf_step, ldA_n (by omega) (by omega), nI_1, if_pos rfl]
    have e7 : (hfill (hfill t 8 (i + 1) 0) 14 (i + 1) 0).1 7 i = t.1 7 i := rfl
    have ih := ih (i + 1) f (by omega) (by omega)
    rw [e7]
    rcases h01 i (by omega) with e | e
    · rw [if_pos e, stZ_n (by omega) (by omega) (Or.inl rfl)]
      have := hs_same (hfill (hfill t 8 (i + 1) 0) 14 (i + 1) 0) 7 i
      rw [e7, e] at this
      rw [this]
      exact ih
    · rw [if_neg (by rw [e]; decide), stZ_n (by omega) (by omega) (Or.inr rfl)]
      have := hs_same (hfill (hfill t 8 (i + 1) 0) 14 (i + 1) 0) 7 i
      rw [e7, e] at this
      rw [this]
      exact ih
theorem P10a {t : HS} {E : Nat} (hE : E ≤ 1536) : ∀ m i f, i + m = E → m < f → pX5_collect_10 f (hfill (hfill (hfill t 7 i 0) 8 i 0) 14 i 0) 1 (nI E) (nI i) = pX5_collect_61 FU (hfill (hfill (hfill t 7 E 0) 8 E 0) 14 E 0) 1 (nI E) 0 := by
  intro m
  induction m with
  | zero =>
    intro i f hi hf
    obtain ⟨f, rfl⟩ : ∃ g, f = g + 1 := ⟨f - 1, by omega⟩
    unfold pX5_collect_10
    rw [if_pos (nI_le (by omega) (by omega)), show i = E by omega]
  | succ m ih =>
    intro i f hi hf
    obtain ⟨f, rfl⟩ : ∃ g, f = g + 1 := ⟨f - 1, by omega⟩
    unfold pX5_collect_10
    rw [if_neg (nI_ge (by omega) (by omega)), stZ_n (by omega) (by omega) (Or.inl rfl), stZ_n (by omega) (by omega) (Or.inl rfl), hs_hf (by decide), hf_step, hf_step, ldA_n (by omega) (by omega), nI_1, if_neg (show ¬ (1 : Int32) = 0 by decide), stZ_n (by omega) (by omega) (Or.inl rfl), hs_hf (by decide), hs_hf (by decide), hf_step]
    have ih := ih (i + 1) f (by omega) (by omega)
    split
    · exact ih
    · exact ih
theorem mkM_init (t : HS) (E : Nat) : hfill (hfill t 8 E 0) 14 E 0 = mkM t (fun j => if j < E then 0 else t.1 8 j) (fun j => if j < E then 0 else t.1 14 j) (t.1 0 11) := by
  refine hs_ext (fun k j => ?_) rfl
  by_cases h8 : k = 8
  · subst h8; rfl
  · by_cases h14 : k = 14
    · subst h14; rfl
    · rw [hf_nk h14, hf_nk h8]
      by_cases h0 : k = 0
      · subst h0
        show t.1 0 j = upd (t.1 0) 11 (t.1 0 11) j
        unfold upd
        split
        · next h => rw [h]
        · rfl
      · simp [mkM, h8, h14, h0]
theorem kw_init {R : Nat → Prop} {E : Nat} {g : Nat → Int32} : KW R E (fun j => if j < E then 0 else g j) := by
  refine ⟨fun a ha => Or.inl (if_pos ha), fun a ha e => ?_⟩
  have e : (if a < E then 0 else g a) = (1 : Int32) := e
  rw [if_pos ha] at e
  exact absurd e (by decide)
theorem markM_iff {t : HS} {B : Nat} {all : Int32} {F D : Nat → Int32} (hL : Lay t B) (hK : KM t all B F D) (hfd : ∀ a, a < 64 * B → F a = 1 → D a = 1) (hsd : ∀ x, seed t all x → Yg t x → F x = 1) : (∀ a, a < 64 * B → (F a = 1 ↔ Reach t all a)) ∧ dsum t D B = sm (fun a => if PB (Reach t all a) then t.1 9 a else 0) (64 * B) := by
  have key := reach_iff (t := t) (all := all) (M := fun a => a < 64 * B ∧ F a = 1) (fun a ha => hK.1.2 a ha.1 ha.2) (fun x hs hy => ⟨th_lt hL hy.1 hy.2.1, hsd x hs hy⟩) (fun x y hx he hy => ⟨th_lt hL hy.1 hy.2.1, hK.2.2.2 x hx.1 (hfd x hx.1 hx.2) y he hy⟩)
  have h1 : ∀ a, a < 64 * B → (F a = 1 ↔ Reach t all a) := fun a ha => ⟨fun e => (key a).mp ⟨ha, e⟩, fun e => ((key a).mpr e).2⟩
  refine ⟨h1, sm_congr _ (fun a ha => ?_)⟩
  by_cases hr : Reach t all a
  · rw [PB_t hr, if_pos (hfd a ha ((h1 a ha).mpr hr)), if_pos rfl]
  · rw [PB_f hr, if_neg (fun e => hr ((h1 a ha).mp (hK.2.2.1 a ha e))), if_neg (by decide)]
theorem collY {t : HS} {B : Nat} (hL : Lay t B) (hrf : ivRef t) (hrt : ivRoot t) (hsc : ivSc t) (hpt : ∀ w, ∃ z, pX5_points t w = some z ∧ ptr t z) : ∃ F D, pX5_collect t 0 = pX5_collect_220 FU (mkM t F D (t.1 0 11 + sm (rl t) (64 * B) + sm (fun a => if PB (Reach t 0 a) then t.1 9 a else 0) (64 * B))) (nI (64 * B)) 0 0 ∧ (∀ a, a < 64 * B → F a = 0 ∨ F a = 1) ∧ ∀ a, a < 64 * B → (F a = 1 ↔ Reach t 0 a) := by
  have hB := hL.1.2.1
  obtain ⟨q, hq, hd⟩ := hsc.2.2.2.2
  have h10 := P10y (t := t) (E := 64 * B) (by omega) (fun a ha => (hL.2.2.1 a ha).2) (64 * B) 0 FU (by omega) (FU_ge (by omega))
  rw [hf_0, hf_0, nI_0, mkM_init] at h10
  obtain ⟨F2, D2, p1, p2, p3, p4, p5, p6, p7⟩ := P61 (L := t.1 0 11) (D := fun j => if j < 64 * B then 0 else t.1 14 j) hL hrf hrt hsc (fun a ha => if_pos ha) hq hd hpt (64 * B) 0 FU (fun j => if j < 64 * B then 0 else t.1 8 j) (by omega) (FU_ge (by omega)) kw_init
  have e0 : t.1 0 11 + sm (rl t) 0 = t.1 0 11 := Int32.add_zero _
  rw [e0, nI_0] at p1
  obtain ⟨g1, g2⟩ := markM_iff hL p2 p4 (fun x hs hy => by
    have hx := hy.1
    rcases hs with ⟨i, hi, e⟩ | ⟨k, q', e1, e2, e3, e4⟩ | ⟨-, b, hb1, hb2, hb3⟩
    · exact p5 i hi x hx e hy
    · have : q' = q := (nI_eq (by omega) (by omega)).mp (e1.symm.trans hd)
      subst this
      exact p6 k e3 x hx e4 hy
    · exact p7 b (by omega) (th_lt hL hb1 hb2.1) hb2 x hb3 hy)
  refine ⟨F2, D2, ?_, p2.1.1, g1⟩
  unfold pX5_collect
  rw [hL.1.2.2, l64, pk_mul, h10, p1, g2]
theorem collA {t : HS} {B : Nat} (hw : MW t B) (hL : Lay (hfill t 7 (64 * B) 0) B) (hrf : ivRef (hfill t 7 (64 * B) 0)) (hrt : ivRoot (hfill t 7 (64 * B) 0)) (hsc : ivSc (hfill t 7 (64 * B) 0)) (hpt : ∀ w, ∃ z, pX5_points (hfill t 7 (64 * B) 0) w = some z ∧ ptr (hfill t 7 (64 * B) 0) z) : ∃ F D, pX5_collect t 1 = pX5_collect_220 FU (mkM (hfill t 7 (64 * B) 0) F D (t.1 0 11 + sm (fun a => if PB (Reach (hfill t 7 (64 * B) 0) 1 a) then t.1 9 a else 0) (64 * B))) (nI (64 * B)) 0 0 ∧ (∀ a, a < 64 * B → F a = 0 ∨ F a = 1) ∧ ∀ a, a < 64 * B → (F a = 1 ↔ Reach (hfill t 7 (64 * B) 0) 1 a) := by
  have hB := hw.2.1
  have hB1 := hw.1
  obtain ⟨q, hq, hd⟩ := hsc.2.2.2.2
  have h10 := P10a (t := t) (E := 64 * B) (by omega) (64 * B) 0 FU (by omega) (FU_ge (by omega))
  rw [hf_0, hf_0, hf_0, nI_0, mkM_init] at h10
  have h61 : ∀ s : HS, pX5_collect_61 FU s 1 (nI (64 * B)) 0 = pX5_collect_100 FU s (nI (64 * B)) 0 := by
    intro s
    have hf : FU = 99999 + 1 := rfl
    rw [hf, pX5_collect_61, ← hf, if_neg (show ¬ nI (64 * B) ≤ 0 from nI_nle (by omega) (by omega)), if_neg (by decide)]
  obtain ⟨F2, D2, p1, p2, p3, p4, p5, p6⟩ := P100 (all := 1) (L := t.1 0 11) (D := fun j => if j < 64 * B then 0 else (hfill t 7 (64 * B) 0).1 14 j) hL hrf hrt (fun a ha => if_pos ha) hq hd hpt 10 0 FU (fun j => if j < 64 * B then 0 else (hfill t 7 (64 * B) 0).1 8 j) (by omega) (FU_ge (by omega)) kw_init
  rw [nI_0] at p1
  obtain ⟨g1, g2⟩ := markM_iff hL p2 p4 (fun x hs hy => by
    have hx := hy.1
    rcases hs with ⟨i, hi, e⟩ | ⟨k, q', e1, e2, e3, e4⟩ | ⟨e, -⟩
    · exact p5 i (by omega) hi x hx e hy
    · have : q' = q := (nI_eq (by omega) (by omega)).mp (e1.symm.trans hd)
      subst this
      exact p6 k e3 x hx e4 hy
    · exact absurd e (by decide))
  refine ⟨F2, D2, ?_, p2.1.1, g1⟩
  unfold pX5_collect
  have e11 : (hfill t 7 (64 * B) 0).1 0 11 = t.1 0 11 := rfl
  rw [hw.2.2, l64, pk_mul, h10, h61, e11, p1, g2]
  rfl
