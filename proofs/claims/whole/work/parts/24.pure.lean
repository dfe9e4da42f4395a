theorem th_blk {t : HS} {B a r n i : Nat} (h : inCell t B a r n) (hi : i < r + n) : (t.1 1 (a / 64) = 1 → (a + i) / 64 = a / 64) ∧ (a / 64 ≤ (a + i) / 64) ∧ (t.1 1 (a / 64) = 2 → (a + i) / 64 < a / 64 + (r + n + 63) / 64) := by
  refine ⟨fun h1 => ?_, by omega, fun h1 => ?_⟩
  · rcases h with ⟨-, k, hk, -, h2, h3⟩ | ⟨h2, -⟩
    · rcases pow5 hk with ⟨-, e⟩ | ⟨-, e⟩ | ⟨-, e⟩ | ⟨-, e⟩ | ⟨-, e⟩ <;> rw [e] at h2 h3 <;> omega
    · rw [h1] at h2; exact absurd h2 (by decide)
  · rcases h with ⟨h2, -⟩ | ⟨-, h2, -⟩
    · rw [h1] at h2; exact absurd h2 (by decide)
    · omega
theorem th_disj {t : HS} {B a r n i x r' n' j : Nat} (ha : inCell t B a r n) (hx : inCell t B x r' n') (hi : i < r + n) (hj : j < r' + n') (e : a + i = x + j) : a = x := by
  have ba := th_blk ha hi
  have bx := th_blk hx hj
  rcases id ha with ⟨a1, k, hk, a2, a3, a4⟩ | ⟨a1, a2, a3, a4, a5⟩
  · rcases id hx with ⟨b1, k', hk', b2, b3, b4⟩ | ⟨b1, b2, b3, b4, b5⟩
    · have hb : a / 64 = x / 64 := by rw [← ba.1 a1, ← bx.1 b1, e]
      rw [hb] at a2
      have hkk : k = k' := (nI_eq (by omega) (by omega)).mp (a2.symm.trans b2)
      subst hkk
      rcases pow5 hk with ⟨-, e2⟩ | ⟨-, e2⟩ | ⟨-, e2⟩ | ⟨-, e2⟩ | ⟨-, e2⟩ <;> rw [e2] at a3 a4 b3 b4 <;> omega
    · exfalso
      have h1 := ba.1 a1
      have h2 := bx.2.2 b1
      rw [← e, h1] at h2
      have h3 := bx.2.1
      rw [← e, h1] at h3
      by_cases h4 : x / 64 = a / 64
      · rw [h4, a1] at b1; exact absurd b1 (by decide)
      · have := b5 (a / 64) (by omega) h2
        rw [a1] at this; exact absurd this (by decide)
  · rcases id hx with ⟨b1, k', hk', b2, b3, b4⟩ | ⟨b1, b2, b3, b4, b5⟩
    · exfalso
      have h1 := bx.1 b1
      have h2 := ba.2.2 a1
      rw [e, h1] at h2
      have h3 := ba.2.1
      rw [e, h1] at h3
      by_cases h4 : a / 64 = x / 64
      · rw [h4, b1] at a1; exact absurd a1 (by decide)
      · have := a5 (x / 64) (by omega) h2
        rw [b1] at this; exact absurd this (by decide)
    · by_cases h4 : a / 64 = x / 64
      · omega
      · exfalso
        have h2 := ba.2.2 a1
        have h3 := bx.2.2 b1
        have h5 := ba.2.1
        have h6 := bx.2.1
        rw [e] at h2 h5
        by_cases h7 : a / 64 < x / 64
        · have := a5 (x / 64) h7 (by omega)
          rw [b1] at this; exact absurd this (by decide)
        · have := b5 (a / 64) (by omega) (by omega)
          rw [a1] at this; exact absurd this (by decide)
theorem op_set {c t : HS} (h : RR c t) (x i v : Int32) : ∃ r c' t', pX4_set c x i v = some (r, c') ∧ pX5_set t x i v = some (r, t') ∧ RR c' t' := by
  have hR := h
  obtain ⟨B, hS, hI⟩ := h
  have hw := hS.1
  have hM := hI.1.1
  unfold pX4_set pX5_set
  rcases th_or hS hI x with ⟨a, h1, rfl, h3, h4, h5⟩ | ⟨h1, h2⟩
  · rw [isThing_t hw h3, isThingM_t hM h5 (by rw [h4]; decide), bd1_s, bd1_s, if_neg (by decide), if_neg (by decide)]
    obtain ⟨r, n, a1, a2, a3, a4, a5, a6, a7⟩ := th_rn hS hI h3
    rw [ldA_n h1 (by omega), sizeM h1 a1 a2, bd1_s, a1]
    by_cases hx : ∃ j, r ≤ j ∧ j < r + n ∧ i = nI j
    · obtain ⟨j, hj, hj2, rfl⟩ := hx
      have hin := th_in hM h1 a5 (i := j) (by omega) a4
      rw [hasNum_t hw h3 a6 a7 a4 hj hj2, bd1_s, if_neg (by decide), in_t hj hj2 (by omega), if_neg (by decide), nI_add, stA_n hin (by omega), stA_n hin (by omega)]
      refine ⟨_, _, _, rfl, rfl, B, ⟨hS.1, hS.2.1, hS.2.2.1, hS.2.2.2.1, hS.2.2.2.2.1, ?_, hS.2.2.2.2.2.2⟩, hI.1, ?_, hI.2.2.1, ?_, hI.2.2.2.2⟩
      · intro q hq
        show (hs c 4 (a + j) v).1 4 q = (hs t 5 (a + j) v).1 5 q
        rw [hs_eq, hs_eq, hS.2.2.2.2.2.1 q hq]
      · intro a' r' i' g1 g2 g3 g4 g5
        show ptr t ((hs t 5 (a + j) v).1 5 (a' + i'))
        obtain ⟨r2, n2, b1, b2, b3, b4, b5⟩ := hI.1.2.2.2.2.1 a' g1 g2
        have hr2 : r' = r2 := (nI_eq (by omega) (by omega)).mp (g3.symm.trans b1)
        rw [hs_nj]
        · exact hI.2.1 a' r' i' g1 g2 g3 g4 g5
        · intro e
          have h9 := th_disj b5 a5 (i := i') (j := j) (by omega) (by omega) e
          subst h9
          have := (nI_eq (by omega) (by omega)).mp (a1.symm.trans b1)
          omega
      · intro a' r' i' y' g1 g2 g3 g4 g5 g6 g7 g8 g9 g10
        have g8 : (hs t 5 (a + j) v).1 5 (a' + i') = nI y' := g8
        obtain ⟨r2, n2, b1, b2, b3, b4, b5⟩ := hI.1.2.2.2.2.1 a' g1 g2
        have hr2 : r' = r2 := (nI_eq (by omega) (by omega)).mp (g4.symm.trans b1)
        rw [hs_nj] at g8
        · exact hI.2.2.2.1 a' r' i' y' g1 g2 g3 g4 g5 g6 g7 g8 g9 g10
        · intro e
          have h9 := th_disj b5 a5 (i := i') (j := j) (by omega) (by omega) e
          subst h9
          have := (nI_eq (by omega) (by omega)).mp (a1.symm.trans b1)
          omega
    · have hx2 : ∀ j, r ≤ j → j < r + n → ¬ i = nI j := fun j hj hj2 e => hx ⟨j, hj, hj2, e⟩
      rw [hasNum_f hw h3 a6 a7 a4 hx2, bd1_s, if_pos rfl, in_f (by omega) (by omega) hx2, if_pos rfl]
      exact ⟨_, _, _, rfl, rfl, hR⟩
  · rw [isThing_f hw h1, isThingM_f hM h2]
    exact ⟨_, _, _, rfl, rfl, hR⟩
theorem op_get {c t : HS} (h : RR c t) (x i : Int32) : ∃ r c' t', pX4_get c x i = some (r, c') ∧ pX5_get t x i = some (r, t') ∧ RR c' t' := by
  have hR := h
  obtain ⟨B, hS, hI⟩ := h
  have hw := hS.1
  have hM := hI.1.1
  unfold pX4_get pX5_get
  rcases th_or hS hI x with ⟨a, h1, rfl, h3, h4, h5⟩ | ⟨h1, h2⟩
  · rw [isThing_t hw h3, isThingM_t hM h5 (by rw [h4]; decide), bd1_s, bd1_s, if_neg (by decide), if_neg (by decide)]
    obtain ⟨r, n, a1, a2, a3, a4, a5, a6, a7⟩ := th_rn hS hI h3
    rw [ldA_n h1 (by omega), sizeM h1 a1 a2, bd1_s, a1]
    by_cases hx : ∃ j, r ≤ j ∧ j < r + n ∧ i = nI j
    · obtain ⟨j, hj, hj2, rfl⟩ := hx
      have hin := th_in hM h1 a5 (i := j) (by omega) a4
      rw [hasNum_t hw h3 a6 a7 a4 hj hj2, bd1_s, if_neg (by decide), in_t hj hj2 (by omega), if_neg (by decide), nI_add, ldA_n hin (by omega), ldA_n hin (by omega), hS.2.2.2.2.2.1 _ hin]
      obtain ⟨z1, z2, z3, z4, z5, z6, z7, z8, z9, z10⟩ := hS
      obtain ⟨y1, y2, y3, y4, y5, y6, y7, y8, y9, y10, y11⟩ := z10
      exact ⟨_, _, _, rfl, rfl, B, ⟨z1, z2, z3, z4, z5, z6, z7, z8, z9, y1, y2, y3, y4, y5, y6, y7, y8, y9, rfl, y11⟩, hI⟩
    · have hx2 : ∀ j, r ≤ j → j < r + n → ¬ i = nI j := fun j hj hj2 e => hx ⟨j, hj, hj2, e⟩
      rw [hasNum_f hw h3 a6 a7 a4 hx2, bd1_s, if_pos rfl, in_f (by omega) (by omega) hx2, if_pos rfl]
      exact ⟨_, _, _, rfl, rfl, hR⟩
  · rw [isThing_f hw h1, isThingM_f hM h2]
    exact ⟨_, _, _, rfl, rfl, hR⟩
theorem op_seen {c t : HS} (h : RR c t) : pX4_seen c = pX5_seen t := by
  obtain ⟨B, hS, hI⟩ := h
  obtain ⟨z1, z2, z3, z4, z5, z6, z7, z8, z9, z10⟩ := hS
  exact z10.2.2.2.2.2.2.2.2.2.1
theorem op_auto {c t : HS} (h : RR c t) (v : Int32) (hv : v = 0 ∨ v = 1) : ∃ r c' t', pX4_auto c v = some (r, c') ∧ pX5_auto t v = some (r, t') ∧ RR c' t' := by
  obtain ⟨B, hS, hI⟩ := h
  unfold pX4_auto pX5_auto
  obtain ⟨z1, z2, z3, z4, z5, z6, z7, z8, z9, y1, y2, y3, y4, y5, y6, y7, y8, y9, y10, y11⟩ := hS
  obtain ⟨i1, i2, i3, i4, j1, j2, j3, j4, j5⟩ := hI
  rw [y9]
  rcases j3 with e | e
  · rw [if_pos e, show pX4_flag (t.1 0 4) = 0 by unfold pX4_flag; rw [if_pos e], gdZ_s hv, gdZ_s hv]
    exact ⟨_, _, _, rfl, rfl, B, ⟨z1, z2, z3, z4, z5, z6, z7, z8, z9, y1, y2, y3, y4, y5, y6, y7, y8, rfl, y10, y11⟩, i1, i2, i3, i4, j1, j2, hv, j4, j5⟩
  · have e0 : ¬ t.1 0 4 = 0 := by rw [e]; decide
    rw [if_neg e0, show pX4_flag (t.1 0 4) = 1 by unfold pX4_flag; rw [if_neg e0], gdZ_s hv, gdZ_s hv]
    exact ⟨_, _, _, rfl, rfl, B, ⟨z1, z2, z3, z4, z5, z6, z7, z8, z9, y1, y2, y3, y4, y5, y6, y7, y8, rfl, y10, y11⟩, i1, i2, i3, i4, j1, j2, hv, j4, j5⟩
theorem op_push {c t : HS} (h : RR c t) (v : Int32) : ∃ r c' t', pX4_push c v = some (r, c') ∧ pX5_push t v = some (r, t') ∧ RR c' t' := by
  have hR := h
  obtain ⟨B, hS, hI⟩ := h
  unfold pX4_push pX5_push
  obtain ⟨z1, z2, z3, z4, z5, z6, z7, z8, z9, y1, y2, y3, y4, y5, y6, y7, y8, y9, y10, y11⟩ := hS
  obtain ⟨i1, i2, i3, i4, j1, j2, j3, j4, n, hn, j5⟩ := hI
  rw [y4, j5, l24]
  by_cases h24 : n = 24
  · subst h24
    rw [if_neg (nI_nlt (Nat.le_refl 24) (by omega)), if_pos rfl]
    exact ⟨_, _, _, rfl, rfl, hR⟩
  · rw [if_pos (nI_lt (by omega) (by omega)), if_neg (by rw [nI_eq (by omega) (by omega)]; exact h24), stA_n (by omega) (by omega), stA_n (by omega) (by omega)]
    have e1 : (hs c 11 n v).1 0 5 = nI n := by rw [hs_nk (by decide), y4, j5]
    have e2 : (hs t 12 n v).1 0 1 = nI n := by rw [hs_nk (by decide), j5]
    rw [e1, e2, nI_1]
    refine ⟨nI (n + 1), _, _, rfl, rfl, B, ⟨z1, z2, z3, z4, z5, z6, z7, ?_, z9, y1, y2, y3, rfl, y5, y6, y7, y8, y9, y10, y11⟩, i1, i2, i3, i4, j1, j2, j3, j4, n + 1, by omega, rfl⟩
    intro q hq
    show (hs c 11 n v).1 11 q = (hs t 12 n v).1 12 q
    rw [hs_eq, hs_eq, z8 q hq]
theorem op_pop {c t : HS} (h : RR c t) : ∃ r c' t', pX4_pop c = some (r, c') ∧ pX5_pop t = some (r, t') ∧ RR c' t' := by
  have hR := h
  obtain ⟨B, hS, hI⟩ := h
  unfold pX4_pop pX5_pop
  obtain ⟨z1, z2, z3, z4, z5, z6, z7, z8, z9, y1, y2, y3, y4, y5, y6, y7, y8, y9, y10, y11⟩ := hS
  obtain ⟨i1, i2, i3, i4, j1, j2, j3, j4, n, hn, j5⟩ := hI
  rw [y4, j5]
  cases n with
  | zero =>
    rw [if_neg (by decide), if_pos nI_0]
    exact ⟨_, _, _, rfl, rfl, hR⟩
  | succ n =>
    rw [if_pos (show (0 : Int32) < nI (n + 1) from nI_lt (a := 0) (by omega) (by omega)), if_neg (nI_ne0 (by omega) (by omega)), nI_pred]
    show ∃ r c' t', (ldA (hs c 0 5 (nI n)) 11 24 (nI n) fun x2 => pfA (hs c 0 5 (nI n)) 12 x2 fun c4 => some (c4.1 0 5, c4)) = some (r, c') ∧ (ldA (hs t 0 1 (nI n)) 12 24 (nI n) fun x2 => pfA (hs t 0 1 (nI n)) 6 x2 fun c4 => some (c4.1 0 1, c4)) = some (r, t') ∧ RR c' t'
    rw [ldA_n (by omega) (by omega), ldA_n (by omega) (by omega)]
    refine ⟨nI n, _, _, rfl, rfl, B, ⟨z1, z2, z3, z4, z5, z6, z7, z8, z9, y1, y2, y3, rfl, y5, y6, y7, y8, y9, z8 n (by omega), y11⟩, i1, i2, i3, i4, j1, j2, j3, j4, n, by omega, rfl⟩
theorem op_top {c t : HS} (h : RR c t) (k : Int32) : ∃ r c' t', pX4_top c k = some (r, c') ∧ pX5_top t k = some (r, t') ∧ RR c' t' := by
  have hR := h
  obtain ⟨B, hS, hI⟩ := h
  unfold pX4_top pX5_top
  obtain ⟨z1, z2, z3, z4, z5, z6, z7, z8, z9, y1, y2, y3, y4, y5, y6, y7, y8, y9, y10, y11⟩ := hS
  obtain ⟨i1, i2, i3, i4, j1, j2, j3, j4, n, hn, j5⟩ := hI
  rw [y4, j5]
  by_cases hx : ∃ j, j < n ∧ k = nI j
  · obtain ⟨j, hj, rfl⟩ := hx
    rw [if_neg (nI_pos (by omega)), if_pos (nI_lt hj (by omega)), inz_t hj (by omega), if_neg (by decide), l1, pk_sub (by omega), pk_sub (by omega), ldA_n (by omega) (by omega), ldA_n (by omega) (by omega)]
    exact ⟨_, _, _, rfl, rfl, B, ⟨z1, z2, z3, z4, z5, z6, z7, z8, z9, y1, y2, y3, y4, y5, y6, y7, y8, y9, z8 _ (by omega), y11⟩, i1, i2, i3, i4, j1, j2, j3, j4, n, hn, j5⟩
  · rw [inz_f (by omega) (fun j hj e => hx ⟨j, hj, e⟩), if_pos rfl]
    refine ⟨0, c, t, ?_, rfl, hR⟩
    rcases pk_ix k (n := n) (by omega) with g | g | ⟨j, g1, g2⟩
    · rw [if_pos g]
    · by_cases g0 : k < 0
      · rw [if_pos g0]
      · rw [if_neg g0, if_neg (Int32.not_lt.mpr g)]
    · exact absurd ⟨j, g1, g2⟩ hx
theorem op_logged {c t : HS} (h : RR c t) (k : Int32) : ∃ r, pX4_logged c k = some r ∧ pX5_logged t k = some r := by
  obtain ⟨B, hS, hI⟩ := h
  unfold pX4_logged pX5_logged
  obtain ⟨z1, z2, z3, z4, z5, z6, z7, z8, z9, y1, y2, y3, y4, y5, y6, y7, y8, y9, y10, y11⟩ := hS
  obtain ⟨i1, i2, i3, i4, j1, j2, j3, ⟨n, hn, j4⟩, j5⟩ := hI
  rw [y2, j4]
  by_cases hx : ∃ j, j < n ∧ k = nI j
  · obtain ⟨j, hj, rfl⟩ := hx
    rw [if_neg (nI_pos (by omega)), if_neg (nI_ge hj (by omega)), inz_t hj (by omega), if_neg (by decide), ldA_n (by omega) (by omega), ldA_n (by omega) (by omega), z9 j (by omega)]
    exact ⟨_, rfl, rfl⟩
  · rw [inz_f (by omega) (fun j hj e => hx ⟨j, hj, e⟩), if_pos rfl]
    refine ⟨-1, ?_, rfl⟩
    rcases pk_ix k (n := n) (by omega) with g | g | ⟨j, g1, g2⟩
    · rw [if_pos g]
    · by_cases g0 : k < 0
      · rw [if_pos g0]
      · rw [if_neg g0, if_pos g]
    · exact absurd ⟨j, g1, g2⟩ hx
theorem isRoot_t {i : Nat} (h : i < 10) : pX4_isRoot (nI i) = 1 := by
  unfold pX4_isRoot
  rw [if_neg (nI_pos (by omega)), l10, if_neg (nI_ge h (by omega))]
theorem isRoot_f {x : Int32} (h : ∀ i, i < 10 → ¬ x = nI i) : pX4_isRoot x = 0 := by
  unfold pX4_isRoot
  rcases pk_ix x (n := 10) (by omega) with g | g | ⟨j, g1, g2⟩
  · rw [if_pos g]
  · by_cases g0 : x < 0
    · rw [if_pos g0]
    · rw [if_neg g0, l10, if_pos g]
  · exact absurd g2 (h j g1)
theorem in9_t {i : Nat} (h : i < 10) : pX5_in (nI i) 0 9 = 1 := inz_t (hi := 10) h (by omega)
theorem in9_f {x : Int32} (h : ∀ i, i < 10 → ¬ x = nI i) : pX5_in x 0 9 = 0 := inz_f (hi := 10) (by omega) h
theorem op_rooted {c t : HS} (h : RR c t) (i : Int32) : ∃ r, pX4_rooted c i = some r ∧ pX5_rooted t i = some r := by
  obtain ⟨B, hS, hI⟩ := h
  unfold pX4_rooted pX5_rooted
  by_cases hx : ∃ j, j < 10 ∧ i = nI j
  · obtain ⟨j, hj, rfl⟩ := hx
    rw [isRoot_t hj, in9_t hj, if_neg (by decide), if_neg (by decide), ldA_n (by omega) (by omega), ldA_n (by omega) (by omega), hS.2.2.2.2.2.2.1 j hj]
    exact ⟨_, rfl, rfl⟩
  · have hx2 : ∀ j, j < 10 → ¬ i = nI j := fun j hj e => hx ⟨j, hj, e⟩
    rw [isRoot_f hx2, in9_f hx2, if_pos rfl, if_pos rfl]
    exact ⟨_, rfl, rfl⟩
theorem op_root {c t : HS} (h : RR c t) (i x : Int32) : ∃ r c' t', pX4_root c i x = some (r, c') ∧ pX5_root t i x = some (r, t') ∧ RR c' t' := by
  have hR := h
  obtain ⟨B, hS, hI⟩ := h
  have hw := hS.1
  have hM := hI.1.1
  unfold pX4_root pX5_root
  by_cases hx : ∃ j, j < 10 ∧ i = nI j
  · obtain ⟨j, hj, rfl⟩ := hx
    rw [isRoot_t hj, in9_t hj, if_neg (by decide), if_neg (by decide)]
    have core : ptr t x → ∃ r c' t', (ldA c 10 10 (nI j) fun x3 => stA c 10 10 (nI j) x fun c5 => some (x3, c5)) = some (r, c') ∧ pX5_root_26 t (nI j) x = some (r, t') ∧ RR c' t' := by
      intro hp
      unfold pX5_root_26
      rw [ldA_n hj (by omega), ldA_n hj (by omega), stA_n hj (by omega), stA_n hj (by omega), hS.2.2.2.2.2.2.1 j hj]
      obtain ⟨z1, z2, z3, z4, z5, z6, z7, z8, z9, z10⟩ := hS
      obtain ⟨i1, i2, i3, i4, i5⟩ := hI
      refine ⟨_, _, _, rfl, rfl, B, ⟨z1, z2, z3, z4, z5, z6, ?_, z8, z9, z10⟩, i1, i2, ?_, i4, i5⟩
      · intro q hq
        show (hs c 10 j x).1 10 q = (hs t 11 j x).1 11 q
        rw [hs_eq, hs_eq, z7 q hq]
      · intro q hq
        show ptr t ((hs t 11 j x).1 11 q)
        rw [hs_eq]
        split
        · exact hp
        · exact i3 q hq
    by_cases hn : x = -1
    · rw [hn, thOrNone_n, bd1_s, if_neg (by decide), if_pos rfl]
      rw [hn] at core
      exact core (Or.inl rfl)
    · rcases th_or hS hI x with ⟨a, h1, rfl, h3, h4, h5⟩ | ⟨h1, h2⟩
      · rw [thOrNone_t hw h3, bd1_s, if_neg (by decide), if_neg hn, isThingM_t hM h5 (by rw [h4]; decide), bd1_s, if_neg (by decide)]
        exact core (Or.inr ⟨a, h1, rfl, h4⟩)
      · rw [thOrNone_f hw hn h1, bd1_s, if_pos rfl, if_neg hn, isThingM_f hM h2, bd1_s, if_pos rfl]
        exact ⟨_, _, _, rfl, rfl, hR⟩
  · have hx2 : ∀ j, j < 10 → ¬ i = nI j := fun j hj e => hx ⟨j, hj, e⟩
    rw [isRoot_f hx2, in9_f hx2, if_pos rfl, if_pos rfl]
    exact ⟨_, _, _, rfl, rfl, hR⟩
