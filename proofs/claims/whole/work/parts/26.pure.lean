def kcl (s : Nat) : Nat := if s ≤ 2 then 0 else if s ≤ 4 then 1 else if s ≤ 8 then 2 else if s ≤ 16 then 3 else if s ≤ 32 then 4 else 5
theorem cellWords_n {k : Nat} (h : k ≤ 4) : pX4_cellWords (nI k) = nI (2 ^ (k + 1)) ∧ pX5_cell (nI k) = nI (2 ^ (k + 1)) := by
  rcases (show k = 0 ∨ k = 1 ∨ k = 2 ∨ k = 3 ∨ k = 4 by omega) with rfl | rfl | rfl | rfl | rfl <;> exact ⟨by decide, by decide⟩
theorem cellsOf_n {k : Nat} (h : k ≤ 4) : pX4_cellsOf (nI k) = nI (64 / 2 ^ (k + 1)) := by
  rcases (show k = 0 ∨ k = 1 ∨ k = 2 ∨ k = 3 ∨ k = 4 by omega) with rfl | rfl | rfl | rfl | rfl <;> decide
theorem kcl_lt {s k : Nat} (hk : k ≤ 4) (h1 : ∀ j, j < k → 2 ^ (j + 1) < s) (h2 : s ≤ 2 ^ (k + 1)) : kcl s = k := by
  unfold kcl
  rcases (show k = 0 ∨ k = 1 ∨ k = 2 ∨ k = 3 ∨ k = 4 by omega) with rfl | rfl | rfl | rfl | rfl
  · rw [if_pos (by simpa using h2)]
  · have := h1 0 (by omega)
    simp at this h2
    rw [if_neg (by omega), if_pos (by omega)]
  · have := h1 1 (by omega)
    simp at this h2
    rw [if_neg (by omega), if_neg (by omega), if_pos (by omega)]
  · have := h1 2 (by omega)
    simp at this h2
    rw [if_neg (by omega), if_neg (by omega), if_neg (by omega), if_pos (by omega)]
  · have := h1 3 (by omega)
    simp at this h2
    rw [if_neg (by omega), if_neg (by omega), if_neg (by omega), if_neg (by omega), if_pos (by omega)]
theorem kcl_5 {s : Nat} (h : 32 < s) : kcl s = 5 := by
  unfold kcl
  rw [if_neg (by omega), if_neg (by omega), if_neg (by omega), if_neg (by omega), if_neg (by omega)]
theorem kcl_small {s : Nat} (h : s ≤ 32) : kcl s ≤ 4 ∧ s ≤ 2 ^ (kcl s + 1) := by
  unfold kcl
  split
  · simp; omega
  · split
    · simp; omega
    · split
      · simp; omega
      · split
        · simp; omega
        · simp; omega
theorem kcl_le (s : Nat) : kcl s ≤ 5 := by
  by_cases h : s ≤ 32
  · have := (kcl_small h).1; omega
  · rw [kcl_5 (by omega)]; omega
theorem pow_le32 {k : Nat} (h : k ≤ 4) : 2 ^ (k + 1) ≤ 32 ∧ 2 ≤ 2 ^ (k + 1) := by
  rcases pow5 h with ⟨-, e⟩ | ⟨-, e⟩ | ⟨-, e⟩ | ⟨-, e⟩ | ⟨-, e⟩ <;> rw [e] <;> omega
theorem classFor_loop {s : Nat} (hs : s ≤ 256) : ∀ m k f, k + m = 5 → m < f → (∀ j, j < k → 2 ^ (j + 1) < s) → pX4_classFor_2 f (nI s) (nI k) = some (nI (kcl s)) := by
  intro m
  induction m with
  | zero =>
    intro k f hk hf h
    obtain ⟨f, rfl⟩ : ∃ g, f = g + 1 := ⟨f - 1, by omega⟩
    have h4 := h 4 (by omega)
    unfold pX4_classFor_2
    rw [l5, if_pos (nI_le (by omega) (by omega)), kcl_5 (by simpa using h4)]
  | succ m ih =>
    intro k f hk hf h
    obtain ⟨f, rfl⟩ : ∃ g, f = g + 1 := ⟨f - 1, by omega⟩
    have hp := pow_le32 (k := k) (by omega)
    unfold pX4_classFor_2
    rw [l5, if_neg (nI_ge (by omega) (by omega)), (cellWords_n (k := k) (by omega)).1]
    by_cases hc : s ≤ 2 ^ (k + 1)
    · rw [if_neg (nI_nlt hc (by omega)), kcl_lt (by omega) h hc]
    · rw [if_pos (nI_lt (by omega) (by omega)), nI_1]
      refine ih (k + 1) f (by omega) (by omega) (fun j hj => ?_)
      by_cases hjk : j = k
      · subst hjk; omega
      · exact h j (by omega)
theorem classFor_n {s : Nat} (hs : s ≤ 256) : pX4_classFor (nI s) = some (nI (kcl s)) := classFor_loop hs 5 0 FU (by omega) (FU_ge (by omega)) (fun j hj => by omega)
theorem classOf_loop {s : Nat} (hs : s ≤ 256) : ∀ m k f, k + m = 5 → m < f → (∀ j, j < k → 2 ^ (j + 1) < s) → pX5_classOf_4 f (nI s) (nI k) (nI (2 ^ (k + 1))) = some (nI (kcl s)) := by
  intro m
  induction m with
  | zero =>
    intro k f hk hf h
    obtain ⟨f, rfl⟩ : ∃ g, f = g + 1 := ⟨f - 1, by omega⟩
    have h4 := h 4 (by omega)
    unfold pX5_classOf_4
    rw [l5, if_pos (nI_le (by omega) (by omega)), kcl_5 (by simpa using h4), show k = 5 by omega]
  | succ m ih =>
    intro k f hk hf h
    obtain ⟨f, rfl⟩ : ∃ g, f = g + 1 := ⟨f - 1, by omega⟩
    have hp := pow_le32 (k := k) (by omega)
    unfold pX5_classOf_4
    rw [l5, if_neg (nI_ge (by omega) (by omega))]
    by_cases hc : s ≤ 2 ^ (k + 1)
    · rw [if_pos (nI_le hc (by omega)), kcl_lt (by omega) h hc]
    · rw [if_neg (nI_ge (by omega) (by omega)), nI_1, l2, pk_mul, show 2 ^ (k + 1) * 2 = 2 ^ (k + 1 + 1) from (Nat.pow_succ 2 (k + 1)).symm]
      refine ih (k + 1) f (by omega) (by omega) (fun j hj => ?_)
      by_cases hjk : j = k
      · subst hjk; omega
      · exact h j (by omega)
theorem classOf_n {s : Nat} (hs : s ≤ 256) : pX5_classOf (nI s) = some (nI (kcl s)) := classOf_loop hs 5 0 FU (by omega) (FU_ge (by omega)) (fun j hj => by omega)
theorem blocksFor_n {s : Nat} (hs : s ≤ 256) : pX4_blocksFor (nI s) = nI ((s + 63) / 64) := by
  unfold pX4_blocksFor
  rw [l64, nI_add, l1, pk_sub (by omega), pk_div (by omega) (by omega) (by omega)]
  rfl
theorem touchC_loop {c : HS} {a r : Nat} (ha : a + r ≤ 1536) : ∀ m i f, i + m = r → m < f → ((∃ k, i ≤ k ∧ k < r ∧ c.1 9 ((a + k) / 64) = 1) → pX2_touchesDirty_2 c f (nI a) (nI r) (nI i) = some 1) ∧ ((∀ k, i ≤ k → k < r → ¬ c.1 9 ((a + k) / 64) = 1) → pX2_touchesDirty_2 c f (nI a) (nI r) (nI i) = some 0) := by
  intro m
  induction m with
  | zero =>
    intro i f hi hf
    obtain ⟨f, rfl⟩ : ∃ g, f = g + 1 := ⟨f - 1, by omega⟩
    unfold pX2_touchesDirty_2
    rw [if_pos (nI_le (by omega) (by omega))]
    exact ⟨fun ⟨k, h1, h2, _⟩ => by omega, fun _ => rfl⟩
  | succ m ih =>
    intro i f hi hf
    obtain ⟨f, rfl⟩ : ∃ g, f = g + 1 := ⟨f - 1, by omega⟩
    unfold pX2_touchesDirty_2
    rw [if_neg (nI_ge (by omega) (by omega)), nI_add, l64, pk_div (by omega) (by omega) (by omega), ldA_n (by omega) (by omega), nI_1]
    have ih := ih (i + 1) f (by omega) (by omega)
    by_cases he : c.1 9 ((a + i) / 64) = 1
    · rw [if_pos he]
      exact ⟨fun _ => rfl, fun h => absurd he (h i (Nat.le_refl i) (by omega))⟩
    · rw [if_neg he]
      refine ⟨fun ⟨k, h1, h2, h3⟩ => ih.1 ⟨k, ?_, h2, h3⟩, fun h => ih.2 (fun k h1 h2 => h k (by omega) h2)⟩
      by_cases hk : k = i
      · subst hk; exact absurd h3 he
      · omega
theorem touchM_loop {t : HS} {a r : Nat} (h1 : a < 1536) (ha : a + r ≤ 1536) (hr : t.1 9 a = nI r) (hd : ∀ b, b < 24 → t.1 3 b = 0 ∨ t.1 3 b = 1) : ∀ m i f, i + m = r → m < f → pX5_isRemembered_43 t f (nI a) 1 (nI i) = some 1 ∧ ((∃ k, i ≤ k ∧ k < r ∧ t.1 3 ((a + k) / 64) = 1) → pX5_isRemembered_43 t f (nI a) 0 (nI i) = some 1) ∧ ((∀ k, i ≤ k → k < r → ¬ t.1 3 ((a + k) / 64) = 1) → pX5_isRemembered_43 t f (nI a) 0 (nI i) = some 0) := by
  intro m
  induction m with
  | zero =>
    intro i f hi hf
    obtain ⟨f, rfl⟩ : ∃ g, f = g + 1 := ⟨f - 1, by omega⟩
    unfold pX5_isRemembered_43
    rw [ldA_n h1 (by omega), ldA_n h1 (by omega), hr, if_pos (nI_le (by omega) (by omega)), if_pos (nI_le (by omega) (by omega)), gdZ_s (Or.inr rfl), gdZ_s (Or.inl rfl)]
    exact ⟨rfl, fun ⟨k, h1, h2, _⟩ => by omega, fun _ => rfl⟩
  | succ m ih =>
    intro i f hi hf
    obtain ⟨f, rfl⟩ : ∃ g, f = g + 1 := ⟨f - 1, by omega⟩
    have ih := ih (i + 1) f (by omega) (by omega)
    have hle : ¬ nI r ≤ nI i := nI_ge (by omega) (by omega)
    unfold pX5_isRemembered_43
    rw [ldA_n h1 (by omega), ldA_n h1 (by omega), hr, if_neg hle, if_neg hle, if_neg (by decide), if_pos rfl, nI_add, l64, pk_div (by omega) (by omega) (by omega), ldA_n (by omega) (by omega), nI_1]
    refine ⟨ih.1, ?_⟩
    rcases hd ((a + i) / 64) (by omega) with he | he
    · rw [if_pos he]
      refine ⟨fun ⟨k, h1, h2, h3⟩ => ih.2.1 ⟨k, ?_, h2, h3⟩, fun h => ih.2.2 (fun k h1 h2 => h k (by omega) h2)⟩
      by_cases hk : k = i
      · subst hk; rw [he] at h3; exact absurd h3 (by decide)
      · omega
    · rw [if_neg (by rw [he]; decide)]
      exact ⟨fun _ => ih.1, fun h => absurd he (h i (Nat.le_refl i) (by omega))⟩
