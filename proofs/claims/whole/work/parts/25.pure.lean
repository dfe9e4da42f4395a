theorem inLogC_loop {c : HS} {x : Int32} {n : Nat} (hs : c.1 0 3 = nI n) (hn : n ≤ 12) : ∀ m i f, i + m = n → m < f → ((∃ k, i ≤ k ∧ k < n ∧ c.1 8 k = x) → pX2_inLog_2 c f x (nI i) = some 1) ∧ ((∀ k, i ≤ k → k < n → ¬ c.1 8 k = x) → pX2_inLog_2 c f x (nI i) = some 0) := by
  intro m
  induction m with
  | zero =>
    intro i f hi hf
    obtain ⟨f, rfl⟩ : ∃ g, f = g + 1 := ⟨f - 1, by omega⟩
    unfold pX2_inLog_2
    rw [hs, if_pos (nI_le (by omega) (by omega))]
    exact ⟨fun ⟨k, h1, h2, _⟩ => by omega, fun _ => rfl⟩
  | succ m ih =>
    intro i f hi hf
    obtain ⟨f, rfl⟩ : ∃ g, f = g + 1 := ⟨f - 1, by omega⟩
    unfold pX2_inLog_2
    rw [hs, if_neg (nI_ge (by omega) (by omega)), ldA_n (by omega) (by omega), nI_1]
    have ih := ih (i + 1) f (by omega) (by omega)
    by_cases he : c.1 8 i = x
    · rw [if_pos he]
      exact ⟨fun _ => rfl, fun h => absurd he (h i (Nat.le_refl i) (by omega))⟩
    · rw [if_neg he]
      refine ⟨fun ⟨k, h1, h2, h3⟩ => ih.1 ⟨k, ?_, h2, h3⟩, fun h => ih.2 (fun k h1 h2 => h k (by omega) h2)⟩
      by_cases hk : k = i
      · subst hk; exact absurd h3 he
      · omega
theorem inLogC_t {c : HS} {x : Int32} {n : Nat} (hs : c.1 0 3 = nI n) (hn : n ≤ 12) (h : ∃ k, k < n ∧ c.1 8 k = x) : pX2_inLog c x = some 1 := by
  obtain ⟨k, h1, h2⟩ := h
  exact (inLogC_loop hs hn n 0 FU (by omega) (FU_ge (by omega))).1 ⟨k, by omega, h1, h2⟩
theorem inLogC_f {c : HS} {x : Int32} {n : Nat} (hs : c.1 0 3 = nI n) (hn : n ≤ 12) (h : ∀ k, k < n → ¬ c.1 8 k = x) : pX2_inLog c x = some 0 :=
  (inLogC_loop hs hn n 0 FU (by omega) (FU_ge (by omega))).2 (fun k _ h2 => h k h2)
theorem inLogM_loop {t : HS} {x : Int32} {n : Nat} (hs : t.1 0 2 = nI n) (hn : n ≤ 12) : ∀ m i f, i + m = n → m < f → pX5_isLogged_4 t f x 1 (nI i) = some 1 ∧ ((∃ k, i ≤ k ∧ k < n ∧ t.1 13 k = x) → pX5_isLogged_4 t f x 0 (nI i) = some 1) ∧ ((∀ k, i ≤ k → k < n → ¬ t.1 13 k = x) → pX5_isLogged_4 t f x 0 (nI i) = some 0) := by
  intro m
  induction m with
  | zero =>
    intro i f hi hf
    obtain ⟨f, rfl⟩ : ∃ g, f = g + 1 := ⟨f - 1, by omega⟩
    unfold pX5_isLogged_4
    rw [hs, if_pos (nI_le (by omega) (by omega)), if_pos (nI_le (by omega) (by omega)), gdZ_s (Or.inr rfl), gdZ_s (Or.inl rfl)]
    exact ⟨rfl, fun ⟨k, h1, h2, _⟩ => by omega, fun _ => rfl⟩
  | succ m ih =>
    intro i f hi hf
    obtain ⟨f, rfl⟩ : ∃ g, f = g + 1 := ⟨f - 1, by omega⟩
    have ih := ih (i + 1) f (by omega) (by omega)
    have hle : ¬ nI n ≤ nI i := nI_ge (by omega) (by omega)
    unfold pX5_isLogged_4
    rw [hs, if_neg hle, if_neg hle, if_neg (by decide), if_pos rfl, ldA_n (by omega) (by omega), nI_1]
    refine ⟨ih.1, ?_⟩
    by_cases he : t.1 13 i = x
    · rw [if_pos he]
      exact ⟨fun _ => ih.1, fun h => absurd he (h i (Nat.le_refl i) (by omega))⟩
    · rw [if_neg he]
      refine ⟨fun ⟨k, h1, h2, h3⟩ => ih.2.1 ⟨k, ?_, h2, h3⟩, fun h => ih.2.2 (fun k h1 h2 => h k (by omega) h2)⟩
      by_cases hk : k = i
      · subst hk; exact absurd h3 he
      · omega
theorem inLogM_t {t : HS} {x : Int32} {n : Nat} (hs : t.1 0 2 = nI n) (hn : n ≤ 12) (h : ∃ k, k < n ∧ t.1 13 k = x) : pX5_isLogged t x = some 1 := by
  obtain ⟨k, h1, h2⟩ := h
  exact (inLogM_loop hs hn n 0 FU (by omega) (FU_ge (by omega))).2.1 ⟨k, by omega, h1, h2⟩
theorem inLogM_f {t : HS} {x : Int32} {n : Nat} (hs : t.1 0 2 = nI n) (hn : n ≤ 12) (h : ∀ k, k < n → ¬ t.1 13 k = x) : pX5_isLogged t x = some 0 :=
  (inLogM_loop hs hn n 0 FU (by omega) (FU_ge (by omega))).2.2 (fun k _ h2 => h k h2)
theorem age_old {c t : HS} {a : Nat} (hag : smAge c t) (ha : a < 1536) (he : a % 2 = 0) (hb : t.1 6 a = 1) : (c.1 7 (a / 2) = 3 ∧ t.1 7 a = 1) ∨ (c.1 7 (a / 2) = 1 ∧ t.1 7 a = 0) := by
  have e : 2 * (a / 2) = a := by omega
  have h := hag (a / 2) (by omega)
  rw [e, hb] at h
  rcases h with h | h | h
  · exact absurd h.2 (by decide)
  · exact Or.inr ⟨h.1, h.2.2⟩
  · exact Or.inl ⟨h.1, h.2.2⟩
theorem put_core {c t : HS} {B a : Nat} (hS : Sim c t B) (hI : Inv t B) (h3 : tb c B a) (x i y : Int32) (ex : x = nI a) (hy : ptr t y) : ∃ r c' t', (bd1 (pX3_hasReference c x i) fun r6 => if r6 = 0 then some ((-12), c) else stA c 4 1536 (x + i) y fun c7 => bd1 (pX3_ageOf c7 x) fun r10 => if r10 = 3 then bd1 (pX2_noteWrite c7 x i 1) fun c14 => some (1, c14) else bd1 (pX2_noteWrite c7 x i 0) fun c12 => some (1, c12)) = some (r, c') ∧ pX5_put_24 t x i y = some (r, t') ∧ RR c' t' := by
  subst ex
  have hw := hS.1
  have hM := hI.1.1
  have hB := hw.2.1
  obtain ⟨h1, h4⟩ := (tb_tm hS hI).mp h3
  obtain ⟨r, n, a1, a2, a3, a4, a5, a6, a7⟩ := th_rn hS hI h3
  have hev := th_even a5
  unfold pX5_put_24
  rw [ldA_n h1 (by omega), a1]
  by_cases hx : ∃ j, j < r ∧ i = nI j
  case neg =>
    have hx2 : ∀ j, j < r → ¬ i = nI j := fun j hj e => hx ⟨j, hj, e⟩
    rw [hasRef_f hw h3 a6 (by omega) hx2, bd1_s, if_pos rfl, inz_f (by omega) hx2, if_pos rfl]
    exact ⟨_, _, _, rfl, rfl, B, hS, hI⟩
  obtain ⟨j, hj, rfl⟩ := hx
  have hin := th_in hM h1 a5 (i := j) (by omega) a4
  have hdv : (a + j) / 64 < 24 := by omega
  rw [hasRef_t hw h3 a6 (by omega) hj, bd1_s, if_neg (by decide), inz_t hj (by omega), if_neg (by decide), nI_add, stA_n hin (by omega), stA_n hin (by omega)]
  obtain ⟨z1, z2, z3, z4, z5, z6, z7, z8, z9, y1, y2, y3, y4, y5, y6, y7, y8, y9, y10, y11⟩ := hS
  obtain ⟨i1, i2, i3, i4, s1, s2, s3, ⟨q, hq, s4⟩, s5⟩ := hI
  obtain ⟨l1', l2', l3', l4', l5', l6'⟩ := i1
  have hwd : smWd (hs c 4 (a + j) y) (hs t 5 (a + j) y) := by
    intro q hq
    show (hs c 4 (a + j) y).1 4 q = (hs t 5 (a + j) y).1 5 q
    rw [hs_eq, hs_eq, z6 q hq]
  have href : ivRef (hs t 5 (a + j) y) := by
    intro a' r' i' g1 g2 g3 g4 g5
    show ptr t ((hs t 5 (a + j) y).1 5 (a' + i'))
    rw [hs_eq]
    split
    · exact hy
    · exact i2 a' r' i' g1 g2 g3 g4 g5
  have hrm : ∀ a' r' i' y', a' < 1536 → t.1 6 a' = 1 → t.1 7 a' = 1 → t.1 9 a' = nI r' → r' ≤ 256 → i' < r' → y' < 1536 → (hs t 5 (a + j) y).1 5 (a' + i') = nI y' → t.1 6 y' = 1 → t.1 7 y' = 0 → a' = a ∨ rem t a' r' := by
    intro a' r' i' y' g1 g2 g3 g4 g5 g6 g7 g8 g9 g10
    obtain ⟨r2, n2, b1, b2, b3, b4, b5⟩ := l5' a' g1 g2
    have hr2 : r' = r2 := (nI_eq (by omega) (by omega)).mp (g4.symm.trans b1)
    by_cases e : a' + i' = a + j
    · exact Or.inl (th_disj b5 a5 (i := i') (j := j) (by omega) (by omega) e)
    · rw [hs_nj e] at g8
      exact Or.inr (i4 a' r' i' y' g1 g2 g3 g4 g5 g6 g7 g8 g9 g10)
  have hrr : ∀ r', t.1 9 a = nI r' → r' ≤ 256 → r' = r := fun r' g4 g5 => (nI_eq (by omega) (by omega)).mp (g4.symm.trans a1)
  have hag : pX3_ageOf (hs c 4 (a + j) y) (nI a) = some (c.1 7 (a / 2)) := ageOf_t (c := hs c 4 (a + j) y) z1 h3
  rw [hag, bd1_s]
  have ew : (hs c 4 (a + j) y).1 0 2 = t.1 0 5 := y1
  have eo : (hs c 4 (a + j) y).1 0 4 = t.1 0 3 := y3
  have el : (hs c 4 (a + j) y).1 0 3 = nI q := y2.trans s4
  have ew' : (hs t 5 (a + j) y).1 0 5 = t.1 0 5 := rfl
  have eo' : (hs t 5 (a + j) y).1 0 3 = t.1 0 3 := rfl
  have el' : (hs t 5 (a + j) y).1 0 2 = nI q := s4
  have ea' : (hs t 5 (a + j) y).1 7 a = t.1 7 a := rfl
  unfold pX2_noteWrite
  rw [ew, ew', eo, eo']
  rcases s1 with s1 | s1
  · have n01 : ¬ (0 : Int32) = 1 := by decide
    have n10 : ¬ (1 : Int32) = 0 := by decide
    have n13 : ¬ (1 : Int32) = 3 := by decide
    have fin : ∀ (c2 t2 : HS), c2 = hs c 4 (a + j) y → t2 = hs t 5 (a + j) y → (t.1 7 a = 1 → rem t a r) → RR c2 t2 := by
      intro c2 t2 e1 e2 hr
      subst e1; subst e2
      refine ⟨B, ⟨z1, z2, z3, z4, z5, hwd, z7, z8, z9, y1, y2, y3, y4, y5, y6, y7, y8, y9, y10, y11⟩, ⟨l1', l2', l3', l4', l5', l6'⟩, href, i3, ?_, Or.inl s1, s2, s3, ⟨q, hq, s4⟩, s5⟩
      intro a' r' i' y' g1 g2 g3 g4 g5 g6 g7 g8 g9 g10
      rcases hrm a' r' i' y' g1 g2 g3 g4 g5 g6 g7 g8 g9 g10 with e | e
      · subst e
        have hr' := hr g3
        rw [← hrr r' g4 g5] at hr'
        exact hr'
      · exact e
    rcases age_old z2 h1 hev h4 with ⟨g1, g2⟩ | ⟨g1, g2⟩
    · rw [g1, if_pos rfl, s1, if_neg n01, if_neg n01, ldA_n h1 (by omega), ea', g2, if_neg n10, if_neg n10]
      rcases s2 with s2 | s2
      · rw [s2, if_pos rfl, if_pos rfl]
        by_cases hin2 : ∃ k, k < q ∧ t.1 13 k = nI a
        · have hin3 : ∃ k, k < q ∧ (hs c 4 (a + j) y).1 8 k = nI a := by
            obtain ⟨k, k1, k2⟩ := hin2
            exact ⟨k, k1, (z9 k (by omega)).trans k2⟩
          rw [inLogC_t el hq hin3, inLogM_t el' hq hin2, bd1_s, bd1_s, if_neg (by decide), if_neg (by decide), bd1_s]
          refine ⟨_, _, _, rfl, rfl, fin _ _ rfl rfl (fun _ => Or.inl ⟨s1, Or.inr ?_⟩)⟩
          obtain ⟨k, k1, k2⟩ := hin2
          exact ⟨k, q, s4, hq, k1, k2⟩
        · have hf : ∀ k, k < q → ¬ t.1 13 k = nI a := fun k k1 k2 => hin2 ⟨k, k1, k2⟩
          have hf' : ∀ k, k < q → ¬ (hs c 4 (a + j) y).1 8 k = nI a := fun k k1 k2 => hf k k1 ((z9 k (by omega)).symm.trans k2)
          rw [inLogC_f el hq hf', inLogM_f el' hq hf, bd1_s, bd1_s, if_pos rfl, if_pos rfl, el']
          unfold pX2_enter
          rw [el, l12]
          by_cases h12 : q = 12
          · subst h12
            rw [if_neg (nI_nlt (Nat.le_refl 12) (by omega)), if_pos rfl]
            refine ⟨1, hs (hs c 4 (a + j) y) 0 4 1, hs (hs t 5 (a + j) y) 0 3 1, rfl, rfl, B, ⟨z1, z2, z3, z4, z5, hwd, z7, z8, z9, y1, y2, rfl, y4, y5, y6, y7, y8, y9, y10, y11⟩, ⟨l1', l2', l3', l4', l5', l6'⟩, href, i3, ?_, Or.inl s1, Or.inr rfl, s3, ⟨12, hq, s4⟩, s5⟩
            intro a' r' i' y' g1 g2 g3 g4 g5 g6 g7 g8 g9 g10
            exact Or.inl ⟨s1, Or.inl rfl⟩
          · have e5 : (hs (hs c 4 (a + j) y) 8 q (nI a)).1 0 3 = nI q := el
            have e6 : (hs (hs t 5 (a + j) y) 13 q (nI a)).1 0 2 = nI q := el'
            rw [if_pos (nI_lt (by omega) (by omega)), if_neg (by rw [nI_eq (by omega) (by omega)]; exact h12), stA_n (by omega) (by omega), stA_n (by omega) (by omega), e5, e6, nI_1]
            refine ⟨1, hs (hs (hs c 4 (a + j) y) 8 q (nI a)) 0 3 (nI (q + 1)), hs (hs (hs t 5 (a + j) y) 13 q (nI a)) 0 2 (nI (q + 1)), rfl, rfl, B, ⟨z1, z2, z3, z4, z5, hwd, z7, z8, ?_, y1, rfl, y3, y4, y5, y6, y7, y8, y9, y10, y11⟩, ⟨l1', l2', l3', l4', l5', l6'⟩, href, i3, ?_, Or.inl s1, Or.inl s2, s3, ⟨q + 1, by omega, rfl⟩, s5⟩
            · intro k hk
              show (hs (hs c 4 (a + j) y) 8 q (nI a)).1 8 k = (hs (hs t 5 (a + j) y) 13 q (nI a)).1 13 k
              rw [hs_eq, hs_eq]
              split
              · rfl
              · exact z9 k hk
            · intro a' r' i' y' g1 g2 g3 g4 g5 g6 g7 g8 g9 g10
              refine Or.inl ⟨s1, Or.inr ?_⟩
              rcases hrm a' r' i' y' g1 g2 g3 g4 g5 g6 g7 g8 g9 g10 with e | e
              · subst e
                exact ⟨q, q + 1, rfl, by omega, by omega, hs_self (hs t 5 (a' + j) y) 13 q (nI a')⟩
              · rcases e with ⟨-, e | ⟨k, m, e1, e2, e3, e4⟩⟩ | ⟨e, -⟩
                · rw [s2] at e; exact absurd e (by decide)
                · have hm : m = q := (nI_eq (by omega) (by omega)).mp (e1.symm.trans s4)
                  subst hm
                  refine ⟨k, m + 1, rfl, by omega, by omega, ?_⟩
                  show (hs (hs t 5 (a + j) y) 13 m (nI a)).1 13 k = nI a'
                  rw [hs_nj (by omega)]
                  exact e4
                · rw [s1] at e; exact absurd e (by decide)
      · rw [s2, if_neg (by decide), if_neg (by decide), bd1_s]
        exact ⟨_, _, _, rfl, rfl, fin _ _ rfl rfl (fun _ => Or.inl ⟨s1, Or.inl s2⟩)⟩
    · rw [g1, if_neg n13, s1, if_neg n01, if_neg n01, if_pos rfl, bd1_s, ldA_n h1 (by omega), ea', g2, if_pos rfl]
      exact ⟨_, _, _, rfl, rfl, fin _ _ rfl rfl (fun h => absurd (g2.symm.trans h) (by decide))⟩
  · have key : RR (hs (hs c 4 (a + j) y) 9 ((a + j) / 64) 1) (hs (hs t 5 (a + j) y) 3 ((a + j) / 64) 1) := by
      refine ⟨B, ⟨z1, z2, z3, ?_, z5, hwd, z7, z8, z9, y1, y2, y3, y4, y5, y6, y7, y8, y9, y10, y11⟩, ⟨l1', ?_, l3', ?_, l5', l6'⟩, href, i3, ?_, Or.inr s1, s2, s3, ⟨q, hq, s4⟩, s5⟩
      · intro b hb
        refine ⟨(z4 b hb).1, (z4 b hb).2.1, ?_⟩
        show (hs (hs c 4 (a + j) y) 9 ((a + j) / 64) 1).1 9 b = (hs (hs t 5 (a + j) y) 3 ((a + j) / 64) 1).1 3 b
        rw [hs_eq, hs_eq]
        split
        · rfl
        · exact (z4 b hb).2.2
      · intro b hb
        refine ⟨(l2' b hb).1, (l2' b hb).2.1, fun hBb => ?_⟩
        show (hs (hs t 5 (a + j) y) 3 ((a + j) / 64) 1).1 3 b = 0
        rw [hs_nj]
        · exact (l2' b hb).2.2 hBb
        · have hbk := th_blk a5 (i := j) (by omega)
          have hlt := th_lt ⟨l1', l2', l3', l4', l5', l6'⟩ h1 h4
          rcases a5 with ⟨b1, -⟩ | ⟨b1, -, -, b4, -⟩
          · have := hbk.1 b1
            omega
          · have := hbk.2.2 b1
            omega
      · intro b hb
        refine ⟨?_, (l4' b hb).2⟩
        show (hs (hs t 5 (a + j) y) 3 ((a + j) / 64) 1).1 3 b = 0 ∨ (hs (hs t 5 (a + j) y) 3 ((a + j) / 64) 1).1 3 b = 1
        rw [hs_eq]
        split
        · exact Or.inr rfl
        · exact (l4' b hb).1
      · intro a' r' i' y' g1 g2 g3 g4 g5 g6 g7 g8 g9 g10
        refine Or.inr ⟨s1, ?_⟩
        rcases hrm a' r' i' y' g1 g2 g3 g4 g5 g6 g7 g8 g9 g10 with e | e
        · subst e
          refine ⟨j, by rw [hrr r' g4 g5]; exact hj, hs_self (hs t 5 (a' + j) y) 3 _ 1⟩
        · rcases e with ⟨e, -⟩ | ⟨-, k, k1, k2⟩
          · rw [s1] at e; exact absurd e (by decide)
          · refine ⟨k, k1, ?_⟩
            show (hs (hs t 5 (a + j) y) 3 ((a + j) / 64) 1).1 3 ((a' + k) / 64) = 1
            rw [hs_eq]
            split
            · rfl
            · exact k2
    rw [s1, if_pos rfl, nI_add, l64, pk_div (by omega) (by omega) (by omega), stZ_n hdv (by omega) (Or.inr rfl)]
    by_cases g1 : c.1 7 (a / 2) = 3
    · rw [if_pos g1, if_pos rfl, stA_n hdv (by omega)]
      exact ⟨1, _, _, rfl, rfl, key⟩
    · rw [if_neg g1, if_pos rfl, stA_n hdv (by omega)]
      exact ⟨1, _, _, rfl, rfl, key⟩
theorem op_put {c t : HS} (h : RR c t) (x i y : Int32) : ∃ r c' t', pX4_put c x i y = some (r, c') ∧ pX5_put t x i y = some (r, t') ∧ RR c' t' := by
  have hR := h
  obtain ⟨B, hS, hI⟩ := h
  have hw := hS.1
  have hM := hI.1.1
  unfold pX4_put pX5_put
  rcases th_or hS hI x with ⟨a, h1, rfl, h3, h4, h5⟩ | ⟨h1, h2⟩
  · rw [isThing_t hw h3, isThingM_t hM h5 (by rw [h4]; decide), bd1_s, bd1_s, if_neg (by decide), if_neg (by decide)]
    by_cases hn : y = -1
    · subst hn
      rw [thOrNone_n, bd1_s, if_neg (by decide), if_pos rfl]
      exact put_core hS hI h3 _ i _ rfl (Or.inl rfl)
    · rcases th_or hS hI y with ⟨b, g1, rfl, g3, g4, g5⟩ | ⟨g1, g2⟩
      · rw [thOrNone_t hw g3, bd1_s, if_neg (by decide), if_neg hn, isThingM_t hM g5 (by rw [g4]; decide), bd1_s, if_neg (by decide)]
        exact put_core hS hI h3 _ i _ rfl (Or.inr ⟨b, g1, rfl, g4⟩)
      · rw [thOrNone_f hw hn g1, bd1_s, if_pos rfl, if_neg hn, isThingM_f hM g2, bd1_s, if_pos rfl]
        exact ⟨_, _, _, rfl, rfl, hR⟩
  · rw [isThing_f hw h1, isThingM_f hM h2]
    exact ⟨_, _, _, rfl, rfl, hR⟩
