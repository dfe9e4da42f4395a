theorem used0 {t : HS} {B b : Nat} (hL : Lay t B) (hb : b < 24) (h : t.1 1 b = 0 ∨ t.1 1 b = 3) : cnt (fun k => decide (¬ t.1 6 (64 * b + k) = 0)) 64 = 0 ∧ cnt (fun k => decide (¬ t.1 6 (64 * b + k) = 0 ∧ ¬ t.1 7 (64 * b + k) = 0)) 64 = 0 := by
  have key : ∀ i, i < 64 → t.1 6 (64 * b + i) = 0 := fun i hi => nobeg hL (by omega) (by rw [show (64 * b + i) / 64 = b by omega]; exact h)
  exact ⟨cnt_zero 64 (fun i hi => decide_eq_false (fun g => g (key i hi))), cnt_zero 64 (fun i hi => decide_eq_false (fun g => g.1 (key i hi)))⟩
theorem op_block {c t : HS} (h : RR c t) (x w : Int32) : ∃ r, pX4_block c x w = some r ∧ pX5_block t x w = some r := by
  obtain ⟨B, hS, hI⟩ := h
  have hw := hS.1
  have hM := hI.1.1
  have hB := hw.2.1
  obtain ⟨z1, z2, z3, z4, z5, z6, z7, z8, z9, z10⟩ := id hS
  unfold pX4_block pX5_block
  rw [hw.2.2.1, hM.2.2]
  by_cases hx : ∃ b, b < B ∧ x = nI b
  case neg =>
    have hx2 : ∀ b, b < B → ¬ x = nI b := fun b hb e => hx ⟨b, hb, e⟩
    rw [inz_f (by omega) hx2, if_pos rfl]
    refine ⟨-101, ?_, rfl⟩
    rcases pk_ix x (n := B) (by omega) with g | g | ⟨j, g1, g2⟩
    · rw [if_pos g]
    · by_cases g0 : x < 0
      · rw [if_pos g0]
      · rw [if_neg g0, if_neg (Int32.not_lt.mpr g)]
    · exact absurd g2 (hx2 j g1)
  obtain ⟨b, hb, rfl⟩ := hx
  have hb4 : b < 24 := by omega
  rw [if_neg (nI_pos (by omega)), if_pos (nI_lt hb (by omega)), inz_t hb (by omega), if_neg (show ¬ (1 : Int32) = 0 by decide)]
  by_cases w0 : w = 0
  · rw [if_pos w0, if_pos w0, ldA_n hb4 (by omega), ldA_n hb4 (by omega), (z4 b hb4).1]
    exact ⟨_, rfl, rfl⟩
  rw [if_neg w0, if_neg w0]
  by_cases w1 : w = 1
  · rw [if_pos w1, if_pos w1, ldA_n hb4 (by omega), ldA_n hb4 (by omega), ldA_n hb4 (by omega), ldA_n hb4 (by omega)]
    rcases (hI.1.2.1 b hb4).1 with e | e | e | e
    · rw [e, if_neg (by decide), if_neg (by decide), (z5 b hb4).2.2 (Or.inl e)]
      exact ⟨_, rfl, rfl⟩
    · rw [e, if_pos rfl, (z5 b hb4).1 e]
      exact ⟨_, rfl, rfl⟩
    · obtain ⟨r, n, a1, a2, a3, a4⟩ := (z5 b hb4).2.1 e
      rw [e, if_neg (by decide), if_pos rfl, l64, pk_mul, blocksOfM (by omega) a1 a2 a3, bd1_s, a4]
      exact ⟨_, rfl, rfl⟩
    · rw [e, if_neg (by decide), if_neg (by decide), (z5 b hb4).2.2 (Or.inr e)]
      exact ⟨_, rfl, rfl⟩
  rw [if_neg w1, if_neg w1]
  by_cases w2 : w = 2
  · rw [if_pos w2, if_pos w2, ldA_n hb4 (by omega), ldA_n hb4 (by omega), thingsIn_n 1 hb4, bd1_s, used_n hb4, bd1_s, ← used_eq hI.1 z2 hb4]
    rcases (hI.1.2.1 b hb4).1 with e | e | e | e
    · rw [(used0 hI.1 hb4 (Or.inl e)).1, if_pos e]
      exact ⟨_, rfl, rfl⟩
    · rw [e, if_neg (by decide), if_neg (by decide)]
      exact ⟨_, rfl, rfl⟩
    · rw [e, if_neg (by decide), if_neg (by decide)]
      exact ⟨_, rfl, rfl⟩
    · rw [(used0 hI.1 hb4 (Or.inr e)).1, e, if_neg (by decide), if_pos rfl]
      exact ⟨_, rfl, rfl⟩
  rw [if_neg w2, if_neg w2]
  by_cases w3 : w = 3
  · rw [if_pos w3, if_pos w3, ldA_n hb4 (by omega), ldA_n hb4 (by omega), thingsIn_n 3 hb4, bd1_s, olds_n hb4, bd1_s, ← olds_eq hI.1 z2 hb4]
    rcases (hI.1.2.1 b hb4).1 with e | e | e | e
    · rw [(used0 hI.1 hb4 (Or.inl e)).2, if_pos e]
      exact ⟨_, rfl, rfl⟩
    · rw [e, if_neg (by decide), if_neg (by decide)]
      exact ⟨_, rfl, rfl⟩
    · rw [e, if_neg (by decide), if_neg (by decide)]
      exact ⟨_, rfl, rfl⟩
    · rw [(used0 hI.1 hb4 (Or.inr e)).2, e, if_neg (by decide), if_pos rfl]
      exact ⟨_, rfl, rfl⟩
  rw [if_neg w3, if_neg w3]
  by_cases w4 : w = 4
  · rw [if_pos w4, if_pos w4, ldA_n hb4 (by omega), ldA_n hb4 (by omega), (z4 b hb4).2.2]
    rcases (hI.1.2.2.2.1 b hb4).1 with e | e
    · rw [e, if_pos rfl]; exact ⟨_, rfl, rfl⟩
    · rw [e, if_neg (by decide)]; exact ⟨_, rfl, rfl⟩
  rw [if_neg w4, if_neg w4]
  by_cases w5 : w = 5
  · rw [if_pos w5, if_pos w5, ldA_n hb4 (by omega), ldA_n hb4 (by omega), (z4 b hb4).2.1]
    rcases (hI.1.2.2.2.1 b hb4).2 with e | e
    · rw [e, if_pos rfl]; exact ⟨_, rfl, rfl⟩
    · rw [e, if_neg (by decide)]; exact ⟨_, rfl, rfl⟩
  rw [if_neg w5, if_neg w5]
  exact ⟨_, rfl, rfl⟩
def sm (g : Nat → Int32) : Nat → Int32
  | 0 => 0
  | n + 1 => sm g n + g n
theorem sm_congr {f g : Nat → Int32} : ∀ n, (∀ i, i < n → f i = g i) → sm f n = sm g n
  | 0, _ => rfl
  | n + 1, h => by
    show sm f n + f n = sm g n + g n
    rw [sm_congr n (fun i hi => h i (by omega)), h n (by omega)]
theorem sm_free {P : Nat → Bool} {g : Nat → Int32} {y : Int32} : ∀ n, (∀ i, i < n → P i = true → g i = 0) → sm (fun i => if P i then y else g i) n = nI (cnt P n) * y + sm g n
  | 0, _ => by
    show (0 : Int32) = nI 0 * y + 0
    rw [nI_0, Int32.zero_mul, Int32.add_zero]
  | n + 1, h => by
    have ih := sm_free (P := P) (g := g) (y := y) n (fun i hi => h i (by omega))
    show sm (fun i => if P i then y else g i) n + (if P n then y else g n) = nI (cnt P (n + 1)) * y + (sm g n + g n)
    rw [ih]
    cases hp : P n with
    | true =>
      rw [cnt_t hp, h n (by omega) hp, nI_succ, Int32.add_mul, Int32.one_mul, Int32.add_zero, if_pos rfl, Int32.add_assoc, Int32.add_assoc, Int32.add_comm (sm g n) y]
    | false =>
      rw [cnt_f hp, if_neg (by decide), Int32.add_assoc]
def gRm (c : HS) (k : Nat) (b : Nat) : Int32 := if c.1 1 b = 1 ∧ c.1 2 b = nI k then nI (64 / 2 ^ (k + 1)) - nI (cnt (fun j => decide (¬ c.1 7 (b * 32 + j) < 1)) 32) else 0
theorem roomC_loop {c : HS} {B k : Nat} {X : Int32} (hw : CW c B) (hk : k ≤ 4) : ∀ m i f, i + m = B → m < f → pX3_roomFor_22 c f (nI k) (X + sm (gRm c k) i) (nI i) = some (X + sm (gRm c k) B) := by
  obtain ⟨w1, w2, w3, w4⟩ := hw
  intro m
  induction m with
  | zero =>
    intro i f hi hf
    obtain ⟨f, rfl⟩ : ∃ g, f = g + 1 := ⟨f - 1, by omega⟩
    unfold pX3_roomFor_22
    rw [w3, if_pos (nI_le (by omega) (by omega)), show i = B by omega]
  | succ m ih =>
    intro i f hi hf
    obtain ⟨f, rfl⟩ : ∃ g, f = g + 1 := ⟨f - 1, by omega⟩
    have ih : pX3_roomFor_22 c f (nI k) (X + (sm (gRm c k) i + gRm c k i)) (nI (i + 1)) = _ := ih (i + 1) f (by omega) (by omega)
    unfold pX3_roomFor_22
    rw [w3, if_neg (nI_ge (by omega) (by omega)), ldA_n (by omega) (by omega), ldA_n (by omega) (by omega), nI_1, cellsOf_n hk]
    by_cases h1 : c.1 1 i = 1
    · rw [if_pos h1]
      by_cases h2 : c.1 2 i = nI k
      · rw [if_pos h2, thingsIn_n 1 (by omega), bd1_s]
        have e : gRm c k i = nI (64 / 2 ^ (k + 1)) - nI (cnt (fun j => decide (¬ c.1 7 (i * 32 + j) < 1)) 32) := if_pos ⟨h1, h2⟩
        rw [e, ← Int32.add_assoc] at ih
        exact ih
      · rw [if_neg h2]
        have e : gRm c k i = 0 := if_neg (fun h => h2 h.2)
        rw [e, Int32.add_zero] at ih
        exact ih
    · rw [if_neg h1]
      have e : gRm c k i = 0 := if_neg (fun h => h1 h.1)
      rw [e, Int32.add_zero] at ih
      exact ih
def hRm (t : HS) (k : Nat) (b : Nat) : Int32 := if decide (t.1 1 b = 0) then nI (64 / 2 ^ (k + 1)) else if t.1 1 b = 1 ∧ t.1 2 b = nI k then nI (64 / 2 ^ (k + 1)) - nI (cnt (fun j => decide (¬ t.1 6 (64 * b + j) = 0)) 64) else 0
theorem roomM_loop {t : HS} {B k : Nat} (hw : MW t B) (hk : k ≤ 4) : ∀ m i f, i + m = B → m < f → pX5_room_16 t f (nI k) (sm (hRm t k) i) (nI i) = some (sm (hRm t k) B) := by
  obtain ⟨w1, w2, w3⟩ := hw
  have hp := pow_le32 hk
  intro m
  induction m with
  | zero =>
    intro i f hi hf
    obtain ⟨f, rfl⟩ : ∃ g, f = g + 1 := ⟨f - 1, by omega⟩
    unfold pX5_room_16
    rw [w3, if_pos (nI_le (by omega) (by omega)), show i = B by omega]
  | succ m ih =>
    intro i f hi hf
    obtain ⟨f, rfl⟩ : ∃ g, f = g + 1 := ⟨f - 1, by omega⟩
    have ih : pX5_room_16 t f (nI k) (sm (hRm t k) i + hRm t k i) (nI (i + 1)) = _ := ih (i + 1) f (by omega) (by omega)
    unfold pX5_room_16
    rw [w3, if_neg (nI_ge (by omega) (by omega)), ldA_n (by omega) (by omega), ldA_n (by omega) (by omega), ldA_n (by omega) (by omega), nI_1, (cellWords_n hk).2, gdN_s (nI_ne0 (by omega) (by omega)), gdN_s (nI_ne0 (by omega) (by omega)), l64, pk_div (by omega) (by omega) (by omega), l5, if_neg (show ¬ nI k = nI 5 by rw [nI_eq (by omega) (by omega)]; omega)]
    by_cases h0 : t.1 1 i = 0
    · rw [if_pos h0]
      have e : hRm t k i = nI (64 / 2 ^ (k + 1)) := if_pos (decide_eq_true h0)
      rw [e] at ih
      exact ih
    · rw [if_neg h0]
      have e0 : hRm t k i = if t.1 1 i = 1 ∧ t.1 2 i = nI k then nI (64 / 2 ^ (k + 1)) - nI (cnt (fun j => decide (¬ t.1 6 (64 * i + j) = 0)) 64) else 0 := if_neg (fun h => h0 (of_decide_eq_true h))
      rw [e0] at ih
      by_cases h1 : t.1 1 i = 1
      · rw [if_pos h1]
        by_cases h2 : t.1 2 i = nI k
        · rw [if_pos h2, used_n (by omega), bd1_s]
          rw [if_pos ⟨h1, h2⟩] at ih
          exact ih
        · rw [if_neg h2]
          rw [if_neg (fun h => h2 h.2), Int32.add_zero] at ih
          exact ih
      · rw [if_neg h1]
        rw [if_neg (fun h => h1 h.1), Int32.add_zero] at ih
        exact ih
theorem roomM5_loop {t : HS} {B : Nat} (hw : MW t B) (hsm : ivSm t) : ∀ m i f, i + m = B → m < f → pX5_room_16 t f (nI 5) (nI (cnt (fun b => decide (t.1 1 b = 0)) i)) (nI i) = some (nI (cnt (fun b => decide (t.1 1 b = 0)) B)) := by
  obtain ⟨w1, w2, w3⟩ := hw
  intro m
  induction m with
  | zero =>
    intro i f hi hf
    obtain ⟨f, rfl⟩ : ∃ g, f = g + 1 := ⟨f - 1, by omega⟩
    unfold pX5_room_16
    rw [w3, if_pos (nI_le (by omega) (by omega)), show i = B by omega]
  | succ m ih =>
    intro i f hi hf
    obtain ⟨f, rfl⟩ : ∃ g, f = g + 1 := ⟨f - 1, by omega⟩
    have ih := ih (i + 1) f (by omega) (by omega)
    unfold pX5_room_16
    rw [w3, if_neg (nI_ge (by omega) (by omega)), ldA_n (by omega) (by omega), ldA_n (by omega) (by omega), ldA_n (by omega) (by omega), nI_1, nI_1, l5, if_pos rfl]
    by_cases h0 : t.1 1 i = 0
    · rw [if_pos h0]
      rw [cnt_t (decide_eq_true h0)] at ih
      exact ih
    · rw [if_neg h0]
      rw [cnt_f (decide_eq_false h0)] at ih
      by_cases h1 : t.1 1 i = 1
      · obtain ⟨k, hk, ek⟩ := hsm i (by omega) h1
        rw [if_pos h1, ek, if_neg (show ¬ nI k = nI 5 by rw [nI_eq (by omega) (by omega)]; omega)]
        exact ih
      · rw [if_neg h1]
        exact ih
theorem op_room {c t : HS} (h : RR c t) (x : Int32) : ∃ r, pX4_room c x = some r ∧ pX5_room t x = some r := by
  obtain ⟨B, hS, hI⟩ := h
  have hw := hS.1
  have hM := hI.1.1
  have hB := hw.2.1
  obtain ⟨z1, z2, z3, z4, z5, z6, z7, z8, z9, z10⟩ := id hS
  have hfr : cnt (fun b => decide (c.1 1 b = 0)) B = cnt (fun b => decide (t.1 1 b = 0)) B := cnt_congr B (fun b hb => by rw [(z4 b (by omega)).1])
  unfold pX4_room pX5_room
  by_cases hx : ∃ k, k < 6 ∧ x = nI k
  case neg =>
    have hx2 : ∀ k, k < 6 → ¬ x = nI k := fun k hk e => hx ⟨k, hk, e⟩
    have hin : pX5_in x 0 5 = 0 := inz_f (hi := 6) (by omega) hx2
    rw [hin, if_pos rfl]
    refine ⟨-102, ?_, rfl⟩
    by_cases g0 : x < 0
    · rw [if_pos g0]
    · rw [if_neg g0, if_neg]
      intro g
      rcases nI_ex x with h0 | ⟨j, hj, rfl⟩
      · exact g0 h0
      · have : j ≤ 5 := (nI_leI (by omega) (by omega)).mp g
        exact hx2 j (by omega) rfl
  obtain ⟨k, hk, rfl⟩ := hx
  have hin : pX5_in (nI k) 0 5 = 1 := inz_t (hi := 6) hk (by omega)
  rw [hin, if_neg (show ¬ (1 : Int32) = 0 by decide), if_neg (nI_pos (by omega)), l5, if_pos (nI_le (by omega) (by omega))]
  unfold pX3_roomFor
  rw [freeBl_n hw, bd1_s, bd1_s, hfr, l5]
  by_cases h5 : k = 5
  · subst h5
    have h16 : pX5_room_16 t FU (nI 5) 0 0 = _ := roomM5_loop hM hI.1.2.2.2.2.2.1 B 0 FU (by omega) (FU_ge (by omega))
    rw [if_pos rfl, bd1_s, h16]
    exact ⟨_, rfl, rfl⟩
  · have h16 : pX5_room_16 t FU (nI k) 0 0 = some (sm (hRm t k) B) := roomM_loop hM (k := k) (by omega) B 0 FU (by omega) (FU_ge (by omega))
    have h22 := roomC_loop (X := nI (cnt (fun b => decide (t.1 1 b = 0)) B) * nI (64 / 2 ^ (k + 1))) hw (k := k) (by omega) B 0 FU (by omega) (FU_ge (by omega))
    have e0 : nI (cnt (fun b => decide (t.1 1 b = 0)) B) * nI (64 / 2 ^ (k + 1)) + sm (gRm c k) 0 = nI (cnt (fun b => decide (t.1 1 b = 0)) B) * nI (64 / 2 ^ (k + 1)) := Int32.add_zero _
    rw [e0, nI_0] at h22
    rw [if_neg (show ¬ nI k = nI 5 by rw [nI_eq (by omega) (by omega)]; exact h5), cellsOf_n (by omega), h22, bd1_s, h16]
    have hs : sm (hRm t k) B = nI (cnt (fun b => decide (t.1 1 b = 0)) B) * nI (64 / 2 ^ (k + 1)) + sm (gRm c k) B := by
      rw [← sm_free B (fun i hi h => ?_)]
      · refine sm_congr B (fun b hb => ?_)
        have hb4 : b < 24 := by omega
        unfold hRm gRm
        rw [used_eq hI.1 z2 hb4, (z4 b hb4).1]
        by_cases h1 : t.1 1 b = 1
        · rw [(z5 b hb4).1 h1]
        · rw [if_neg (fun h : t.1 1 b = 1 ∧ t.1 2 b = nI k => h1 h.1), if_neg (fun h : t.1 1 b = 1 ∧ c.1 2 b = nI k => h1 h.1)]
      · have h0 := of_decide_eq_true h
        unfold gRm
        rw [if_neg]
        intro h
        rw [(z4 i (by omega)).1, h0] at h
        exact absurd h.1 (by decide)
    rw [hs]
    exact ⟨_, rfl, rfl⟩
