theorem hs_ext {a b : HS} (h : ∀ k j, a.1 k j = b.1 k j) (h2 : a.2 = b.2) : a = b := by
  obtain ⟨a1, a2⟩ := a
  obtain ⟨b1, b2⟩ := b
  have e : a1 = b1 := funext fun k => funext fun j => h k j
  have e2 : a2 = b2 := h2
  rw [e, e2]
def hfill (c : HS) (k n : Nat) (v : Int32) : HS := (fun k' => if k' = k then (fun j => if j < n then v else c.1 k j) else c.1 k', c.2)
theorem hf_eq (c : HS) (k n j : Nat) (v : Int32) : (hfill c k n v).1 k j = if j < n then v else c.1 k j := by simp [hfill]
theorem hf_lt {c : HS} {k n j : Nat} {v : Int32} (h : j < n) : (hfill c k n v).1 k j = v := by rw [hf_eq, if_pos h]
theorem hf_nk {c : HS} {k k' n : Nat} {v : Int32} (h : k' ≠ k) : (hfill c k n v).1 k' = c.1 k' := by simp [hfill, h]
theorem hf_0 (c : HS) (k : Nat) (v : Int32) : hfill c k 0 v = c := by
  refine hs_ext (fun k' j => ?_) rfl
  by_cases h : k' = k
  · subst h; rw [hf_eq, if_neg (by omega)]
  · rw [hf_nk h]
theorem hf_step (c : HS) (k i : Nat) (v : Int32) : hs (hfill c k i v) k i v = hfill c k (i + 1) v := by
  refine hs_ext (fun k' j => ?_) rfl
  by_cases h : k' = k
  · subst h
    rw [hs_eq, hf_eq, hf_eq]
    by_cases hj : j = i
    · rw [if_pos hj, if_pos (by omega)]
    · rw [if_neg hj]
      by_cases hi : j < i
      · rw [if_pos hi, if_pos (by omega)]
      · rw [if_neg hi, if_neg (by omega)]
  · rw [hs_nk h, hf_nk h, hf_nk h]
theorem hs_hf {c : HS} {k k' n i : Nat} {v w : Int32} (h : k ≠ k') : hs (hfill c k n v) k' i w = hfill (hs c k' i w) k n v := by
  refine hs_ext (fun q j => ?_) rfl
  by_cases h1 : q = k'
  · subst h1
    rw [hs_eq, hf_nk (fun e => h e.symm), hf_nk (fun e => h e.symm), hs_eq]
  · rw [hs_nk h1]
    by_cases h2 : q = k
    · subst h2
      rw [hf_eq, hf_eq, hs_nk h1]
    · rw [hf_nk h2, hf_nk h2, hs_nk h1]
theorem reset36 {c : HS} : ∀ m i f, i + m = 768 → m < f → pX3_reset_36 f (hfill c 7 i 0) (nI i) = some (hfill c 7 768 0) := by
  intro m
  induction m with
  | zero =>
    intro i f hi hf
    obtain ⟨f, rfl⟩ : ∃ g, f = g + 1 := ⟨f - 1, by omega⟩
    unfold pX3_reset_36
    rw [l768, if_pos (nI_le (by omega) (by omega)), show i = 768 by omega]
  | succ m ih =>
    intro i f hi hf
    obtain ⟨f, rfl⟩ : ∃ g, f = g + 1 := ⟨f - 1, by omega⟩
    unfold pX3_reset_36
    rw [l768, if_neg (nI_ge (by omega) (by omega)), stA_n (by omega) (by omega), hf_step, nI_1]
    exact ih (i + 1) f (by omega) (by omega)
theorem turn_n {c : HS} {b : Nat} (s d : Int32) (hb : b < 24) : pX3_turn c (nI b) s d = some (hs (hs (hs c 1 b s) 2 b d) 3 b 0) := by
  unfold pX3_turn
  rw [stA_n hb (by omega), stA_n hb (by omega), stA_n hb (by omega)]
theorem reset15 {c : HS} : ∀ m i f, i + m = 24 → m < f → pX3_reset_15 f (hfill (hfill (hfill c 1 i 0) 2 i 0) 3 i 0) (nI i) = some (hfill (hfill (hfill (hfill c 1 24 0) 2 24 0) 3 24 0) 7 768 0) := by
  intro m
  induction m with
  | zero =>
    intro i f hi hf
    obtain ⟨f, rfl⟩ : ∃ g, f = g + 1 := ⟨f - 1, by omega⟩
    unfold pX3_reset_15
    rw [l24, if_pos (nI_le (by omega) (by omega)), show i = 24 by omega]
    have := reset36 (c := hfill (hfill (hfill c 1 24 0) 2 24 0) 3 24 0) 768 0 FU (by omega) (FU_ge (by omega))
    rw [hf_0] at this
    exact this
  | succ m ih =>
    intro i f hi hf
    obtain ⟨f, rfl⟩ : ∃ g, f = g + 1 := ⟨f - 1, by omega⟩
    unfold pX3_reset_15
    rw [l24, if_neg (nI_ge (by omega) (by omega)), turn_n 0 0 (by omega), bd1_s, hs_hf (by decide), hs_hf (by decide), hf_step, hs_hf (by decide), hf_step, hf_step, nI_1]
    exact ih (i + 1) f (by omega) (by omega)
theorem forget12 {c : HS} : ∀ m i f, i + m = 24 → m < f → pX2_forget_12 f (hfill c 9 i 0) (nI i) = some (hfill c 9 24 0) := by
  intro m
  induction m with
  | zero =>
    intro i f hi hf
    obtain ⟨f, rfl⟩ : ∃ g, f = g + 1 := ⟨f - 1, by omega⟩
    unfold pX2_forget_12
    rw [l24, if_pos (nI_le (by omega) (by omega)), show i = 24 by omega]
  | succ m ih =>
    intro i f hi hf
    obtain ⟨f, rfl⟩ : ∃ g, f = g + 1 := ⟨f - 1, by omega⟩
    unfold pX2_forget_12
    rw [l24, if_neg (nI_ge (by omega) (by omega)), stA_n (by omega) (by omega), hf_step, nI_1]
    exact ih (i + 1) f (by omega) (by omega)
theorem forget_n (c : HS) : pX2_forget c = some (hfill (hs (hs c 0 3 0) 0 4 0) 9 24 0) := by
  have := forget12 (c := hs (hs c 0 3 0) 0 4 0) 24 0 FU (by omega) (FU_ge (by omega))
  rw [hf_0, nI_0] at this
  unfold pX2_forget pfA
  exact this
theorem hreset2 {c : HS} : ∀ m i f, i + m = 10 → m < f → pX1_reset_2 f (hfill c 10 i (-1)) (nI i) = some (hs (hfill c 10 10 (-1)) 0 5 0) := by
  intro m
  induction m with
  | zero =>
    intro i f hi hf
    obtain ⟨f, rfl⟩ : ∃ g, f = g + 1 := ⟨f - 1, by omega⟩
    unfold pX1_reset_2
    rw [l10, if_pos (nI_le (by omega) (by omega)), show i = 10 by omega]
    rfl
  | succ m ih =>
    intro i f hi hf
    obtain ⟨f, rfl⟩ : ∃ g, f = g + 1 := ⟨f - 1, by omega⟩
    unfold pX1_reset_2
    rw [l10, if_neg (nI_ge (by omega) (by omega)), stA_n (by omega) (by omega), hf_step, nI_1]
    exact ih (i + 1) f (by omega) (by omega)
theorem hreset_n (c : HS) : pX1_reset c = some (hs (hfill c 10 10 (-1)) 0 5 0) := by
  have := hreset2 (c := c) 10 0 FU (by omega) (FU_ge (by omega))
  rw [hf_0] at this
  exact this
def opC (c : HS) (b : Nat) : HS := hs (hs (hfill (hfill (hs (hs (hfill (hfill (hfill (hfill (hs (hs c 0 0 (nI b)) 0 1 (nI (64 * b))) 1 24 0) 2 24 0) 3 24 0) 7 768 0) 0 3 0) 0 4 0) 9 24 0) 10 10 (-1)) 0 5 0) 0 12 0
def opM (t : HS) (b : Nat) : HS := hs (hs (hs (hs (hs (hfill (hfill (hfill (hfill (hfill t 6 1536 0) 1 24 0) 3 24 0) 4 24 0) 11 10 (-1)) 0 0 (nI b)) 0 1 0) 0 2 0) 0 3 0) 0 6 0
theorem openC_n {c : HS} {B b : Nat} (hw : CW c B) (h1 : 1 ≤ b) (h2 : b ≤ 24) : pX4_open c (nI b) = some (nI (cnt (fun k => decide (¬ c.1 7 k < 1)) (B * 32)), opC c b) := by
  unfold pX4_open
  rw [l1, if_neg (nI_nlt h1 (by omega)), l24, if_pos (nI_le h2 (by omega)), ← l1, things_n 1 hw, bd1_s]
  have hr : pX3_reset c (nI b) = some (hfill (hfill (hfill (hfill (hs (hs c 0 0 (nI b)) 0 1 (nI (64 * b))) 1 24 0) 2 24 0) 3 24 0) 7 768 0) := by
    unfold pX3_reset pfA
    rw [l64, pk_mul, Nat.mul_comm]
    have := reset15 (c := hs (hs c 0 0 (nI b)) 0 1 (nI (64 * b))) 24 0 FU (by omega) (FU_ge (by omega))
    rw [hf_0, hf_0, hf_0] at this
    exact this
  rw [hr, bd1_s, forget_n, bd1_s, hreset_n, bd1_s]
  rfl
theorem open77 {t : HS} {b x : Int32} : ∀ m i f, i + m = 10 → m < f → pX5_open_77 f (hfill t 11 i (-1)) b x (nI i) = some (x, hs (hs (hs (hs (hs (hfill t 11 10 (-1)) 0 0 b) 0 1 0) 0 2 0) 0 3 0) 0 6 0) := by
  intro m
  induction m with
  | zero =>
    intro i f hi hf
    obtain ⟨f, rfl⟩ : ∃ g, f = g + 1 := ⟨f - 1, by omega⟩
    unfold pX5_open_77
    rw [l10, if_pos (nI_le (by omega) (by omega)), show i = 10 by omega]
    rfl
  | succ m ih =>
    intro i f hi hf
    obtain ⟨f, rfl⟩ : ∃ g, f = g + 1 := ⟨f - 1, by omega⟩
    unfold pX5_open_77
    rw [l10, if_neg (nI_ge (by omega) (by omega)), stA_n (by omega) (by omega), hf_step, nI_1]
    exact ih (i + 1) f (by omega) (by omega)
theorem open42 {t : HS} {b x : Int32} : ∀ m i f, i + m = 24 → m < f → pX5_open_42 f (hfill (hfill (hfill t 1 i 0) 3 i 0) 4 i 0) b x (nI i) = some (x, hs (hs (hs (hs (hs (hfill (hfill (hfill (hfill t 1 24 0) 3 24 0) 4 24 0) 11 10 (-1)) 0 0 b) 0 1 0) 0 2 0) 0 3 0) 0 6 0) := by
  intro m
  induction m with
  | zero =>
    intro i f hi hf
    obtain ⟨f, rfl⟩ : ∃ g, f = g + 1 := ⟨f - 1, by omega⟩
    unfold pX5_open_42
    rw [l24, if_pos (nI_le (by omega) (by omega)), show i = 24 by omega]
    have := open77 (t := hfill (hfill (hfill t 1 24 0) 3 24 0) 4 24 0) (b := b) (x := x) 10 0 FU (by omega) (FU_ge (by omega))
    rw [hf_0] at this
    exact this
  | succ m ih =>
    intro i f hi hf
    obtain ⟨f, rfl⟩ : ∃ g, f = g + 1 := ⟨f - 1, by omega⟩
    unfold pX5_open_42
    rw [l24, if_neg (nI_ge (by omega) (by omega)), stA_n (by omega) (by omega), stZ_n (by omega) (by omega) (Or.inl rfl), stZ_n (by omega) (by omega) (Or.inl rfl), hs_hf (by decide), hs_hf (by decide), hf_step, hs_hf (by decide), hf_step, hf_step, nI_1]
    exact ih (i + 1) f (by omega) (by omega)
theorem open20 {t : HS} {b x : Int32} : ∀ m i f, i + m = 1536 → m < f → pX5_open_20 f (hfill t 6 i 0) b x (nI i) = some (x, hs (hs (hs (hs (hs (hfill (hfill (hfill (hfill (hfill t 6 1536 0) 1 24 0) 3 24 0) 4 24 0) 11 10 (-1)) 0 0 b) 0 1 0) 0 2 0) 0 3 0) 0 6 0) := by
  intro m
  induction m with
  | zero =>
    intro i f hi hf
    obtain ⟨f, rfl⟩ : ∃ g, f = g + 1 := ⟨f - 1, by omega⟩
    unfold pX5_open_20
    rw [l1536, if_pos (nI_le (by omega) (by omega)), show i = 1536 by omega]
    have := open42 (t := hfill t 6 1536 0) (b := b) (x := x) 24 0 FU (by omega) (FU_ge (by omega))
    rw [hf_0, hf_0, hf_0] at this
    exact this
  | succ m ih =>
    intro i f hi hf
    obtain ⟨f, rfl⟩ : ∃ g, f = g + 1 := ⟨f - 1, by omega⟩
    unfold pX5_open_20
    rw [l1536, if_neg (nI_ge (by omega) (by omega)), stZ_n (by omega) (by omega) (Or.inl rfl), hf_step, nI_1]
    exact ih (i + 1) f (by omega) (by omega)
theorem openM_n {t : HS} {B b : Nat} (hw : MW t B) (h1 : 1 ≤ b) (h2 : b ≤ 24) : pX5_open t (nI b) = some (nI (cnt (fun a => decide (¬ t.1 6 a = 0)) (64 * B)), opM t b) := by
  unfold pX5_open
  have hin : pX5_in (nI b) 1 24 = 1 := in_t (lo := 1) (hi := 25) h1 (by omega) (by omega)
  rw [hin, if_neg (by decide), thingsM_n hw, bd1_s]
  have := open20 (t := t) (b := nI b) (x := nI (cnt (fun a => decide (¬ t.1 6 a = 0)) (64 * B))) 1536 0 FU (by omega) (FU_ge (by omega))
  rw [hf_0] at this
  exact this
theorem opC_7 {c : HS} {b k : Nat} (h : k < 768) : (opC c b).1 7 k = 0 := hf_lt (k := 7) (v := 0) (c := hfill (hfill (hfill (hs (hs c 0 0 (nI b)) 0 1 (nI (64 * b))) 1 24 0) 2 24 0) 3 24 0) h
theorem opC_b {c : HS} {b k : Nat} (h : k < 24) : (opC c b).1 1 k = 0 ∧ (opC c b).1 2 k = 0 ∧ (opC c b).1 3 k = 0 ∧ (opC c b).1 9 k = 0 := ⟨hf_lt (k := 1) (v := 0) (c := hs (hs c 0 0 (nI b)) 0 1 (nI (64 * b))) h, hf_lt (k := 2) (v := 0) (c := hfill (hs (hs c 0 0 (nI b)) 0 1 (nI (64 * b))) 1 24 0) h, hf_lt (k := 3) (v := 0) (c := hfill (hfill (hs (hs c 0 0 (nI b)) 0 1 (nI (64 * b))) 1 24 0) 2 24 0) h, hf_lt (k := 9) (v := 0) (c := hs (hs (hfill (hfill (hfill (hfill (hs (hs c 0 0 (nI b)) 0 1 (nI (64 * b))) 1 24 0) 2 24 0) 3 24 0) 7 768 0) 0 3 0) 0 4 0) h⟩
theorem opC_r {c : HS} {b k : Nat} (h : k < 10) : (opC c b).1 10 k = -1 := by
  show (hfill c 10 10 (-1)).1 10 k = -1
  exact hf_lt h
theorem opM_6 {t : HS} {b k : Nat} (h : k < 1536) : (opM t b).1 6 k = 0 := hf_lt (k := 6) (v := 0) (c := t) h
theorem opM_b {t : HS} {b k : Nat} (h : k < 24) : (opM t b).1 1 k = 0 ∧ (opM t b).1 3 k = 0 ∧ (opM t b).1 4 k = 0 := ⟨hf_lt (k := 1) (v := 0) (c := hfill t 6 1536 0) h, hf_lt (k := 3) (v := 0) (c := hfill (hfill t 6 1536 0) 1 24 0) h, hf_lt (k := 4) (v := 0) (c := hfill (hfill (hfill t 6 1536 0) 1 24 0) 3 24 0) h⟩
theorem opM_r {t : HS} {b k : Nat} (h : k < 10) : (opM t b).1 11 k = -1 := by
  show (hfill t 11 10 (-1)).1 11 k = -1
  exact hf_lt h
theorem op_RR {c t : HS} {B b : Nat} (hS : Sim c t B) (hI : Inv t B) (h1 : 1 ≤ b) (h2 : b ≤ 24) : RR (opC c b) (opM t b) := by
  obtain ⟨z1, z2, z3, z4, z5, z6, z7, z8, z9, y1, y2, y3, y4, y5, y6, y7, y8, y9, y10, y11⟩ := hS
  obtain ⟨i1, i2, i3, i4, j1, j2, j3, j4, j5⟩ := hI
  have n61 : ∀ a, a < 1536 → ¬ (opM t b).1 6 a = 1 := fun a ha h => by rw [opM_6 ha] at h; exact absurd h (by decide)
  refine ⟨b, ⟨⟨h1, h2, rfl, rfl⟩, ?_, z3, ?_, ?_, z6, ?_, z8, z9, y1, rfl, rfl, rfl, y5, y6, y7, y8, y9, rfl, y11⟩, ⟨⟨h1, h2, rfl⟩, ?_, ?_, ?_, ?_, ?_, ?_, ?_⟩, ?_, ?_, ?_, j1, Or.inl rfl, j3, ⟨0, by omega, rfl⟩, ⟨0, by omega, rfl⟩⟩
  · exact fun k hk => Or.inl ⟨opC_7 hk, opM_6 (by omega)⟩
  · intro q hq
    rw [(opC_b hq).1, (opC_b hq).2.2.1, (opC_b hq).2.2.2, (opM_b hq).1, (opM_b hq).2.1, (opM_b hq).2.2]
    exact ⟨rfl, rfl, rfl⟩
  · intro q hq
    rw [(opC_b hq).2.1, (opM_b hq).1]
    exact ⟨fun h => absurd h (by decide), fun h => absurd h (by decide), fun _ => rfl⟩
  · intro i hi
    rw [opC_r hi, opM_r hi]
  · intro q hq
    rw [(opM_b hq).1, (opM_b hq).2.1]
    exact ⟨Or.inl rfl, fun _ => rfl, fun _ => rfl⟩
  · intro a ha
    exact ⟨Or.inl (opM_6 ha), (i1.2.2.1 a ha).2⟩
  · intro q hq
    exact ⟨Or.inl (opM_b hq).2.1, Or.inl (opM_b hq).2.2⟩
  · exact fun a ha h => absurd h (n61 a ha)
  · intro q hq h
    rw [(opM_b hq).1] at h
    exact absurd h (by decide)
  · intro q hq h
    rw [(opM_b hq).1] at h
    exact absurd h (by decide)
  · intro q hq h
    rw [(opM_b hq).1] at h
    exact absurd h (by decide)
  · exact fun a r i ha h => absurd h (n61 a ha)
  · exact fun i hi => Or.inl (opM_r hi)
  · exact fun a r i y ha h => absurd h (n61 a ha)
theorem op_open {c t : HS} (h : RR c t) (x : Int32) : ∃ r c' t', pX4_open c x = some (r, c') ∧ pX5_open t x = some (r, t') ∧ RR c' t' := by
  have hR := h
  obtain ⟨B, hS, hI⟩ := h
  by_cases hx : ∃ b, 1 ≤ b ∧ b < 25 ∧ x = nI b
  · obtain ⟨b, h1, h2, rfl⟩ := hx
    rw [openC_n hS.1 h1 (by omega), openM_n hI.1.1 h1 (by omega), things_eq hI.1 hS.2.1]
    exact ⟨_, _, _, rfl, rfl, op_RR hS hI h1 (by omega)⟩
  · have hx2 : ∀ b, 1 ≤ b → b < 25 → ¬ x = nI b := fun b h1 h2 e => hx ⟨b, h1, h2, e⟩
    have hin : pX5_in x 1 24 = 0 := in_f (lo := 1) (hi := 25) (by omega) (by omega) hx2
    unfold pX4_open pX5_open
    rw [hin, if_pos rfl]
    refine ⟨-102, c, t, ?_, rfl, hR⟩
    by_cases g : x < 1
    · rw [if_pos g]
    · rw [if_neg g, if_neg]
      intro g2
      rcases nI_ex x with h0 | ⟨j, hj, rfl⟩
      · exact g (Int32.lt_of_lt_of_le h0 (by decide))
      · have a1 : 1 ≤ j := by
          by_cases q : 1 ≤ j
          · exact q
          · exact absurd (nI_lt (a := j) (b := 1) (by omega) (by omega)) g
        have a2 : j ≤ 24 := (nI_leI (by omega) (by omega)).mp g2
        exact hx2 j a1 (by omega) rfl
theorem cnt0 {c t : HS} {B : Nat} (hI : Inv t B) (h : cnt (fun a => decide (¬ t.1 6 a = 0)) (64 * B) = 0) : ∀ a, a < 1536 → ¬ t.1 6 a = 1 := by
  intro a ha h1
  have hlt := th_lt hI.1 ha h1
  have := cnt_pos (64 * B) h a hlt
  rw [h1] at this
  exact absurd this (by decide)
theorem op_way {c t : HS} (h : RR c t) (x : Int32) : ∃ r c' t', pX4_way c x = some (r, c') ∧ pX5_way t x = some (r, t') ∧ RR c' t' := by
  have hR := h
  obtain ⟨B, hS, hI⟩ := h
  have hB := hS.1.2.1
  have core : x = 0 ∨ x = 1 → ∃ r c' t', pX4_way_12 c x = some (r, c') ∧ (bd1 (pX5_things t) fun r2 => if r2 ≤ 0 then pfA t 5 x fun c3 => some (t.1 0 5, c3) else some ((-103), t)) = some (r, t') ∧ RR c' t' := by
    intro hx
    unfold pX4_way_12
    rw [things_n 1 hS.1, thingsM_n hI.1.1, bd1_s, bd1_s, things_eq hI.1 hS.2.1]
    by_cases h0 : cnt (fun k => decide (¬ c.1 7 k < 1)) (B * 32) = 0
    · rw [h0, if_pos (by decide), if_pos (by decide)]
      have nb := cnt0 (c := c) hI (by rw [things_eq hI.1 hS.2.1]; exact h0)
      obtain ⟨z1, z2, z3, z4, z5, z6, z7, z8, z9, y1, y2, y3, y4, y5, y6, y7, y8, y9, y10, y11⟩ := hS
      obtain ⟨i1, i2, i3, i4, j1, j2, j3, j4, j5⟩ := hI
      rw [y1]
      exact ⟨_, _, _, rfl, rfl, B, ⟨z1, z2, z3, z4, z5, z6, z7, z8, z9, rfl, y2, y3, y4, y5, y6, y7, y8, y9, y10, y11⟩, i1, i2, i3, fun a r i y ha h => absurd h (nb a ha), hx, j2, j3, j4, j5⟩
    · have hle := cnt_le (fun k => decide (¬ c.1 7 k < 1)) (B * 32)
      rw [if_neg (nI_nle (by omega) (by omega)), if_neg (nI_nle (by omega) (by omega))]
      exact ⟨_, _, _, rfl, rfl, hR⟩
  unfold pX4_way pX5_way
  by_cases x0 : x = 0
  · rw [if_pos x0, show pX5_in x 0 1 = 1 by rw [x0]; decide, if_neg (by decide)]
    exact core (Or.inl x0)
  · rw [if_neg x0]
    by_cases x1 : x = 1
    · rw [if_pos x1, show pX5_in x 0 1 = 1 by rw [x1]; decide, if_neg (by decide)]
      exact core (Or.inr x1)
    · have hin : pX5_in x 0 1 = 0 := inz_f (hi := 2) (by omega) (fun j hj e => by
        rcases (show j = 0 ∨ j = 1 by omega) with rfl | rfl
        · exact x0 e
        · exact x1 e)
      rw [if_neg x1, hin, if_pos rfl]
      exact ⟨_, _, _, rfl, rfl, hR⟩
