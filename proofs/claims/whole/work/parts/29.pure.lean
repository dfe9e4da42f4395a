noncomputable def PB (P : Prop) : Bool := @decide P (Classical.propDecidable P)
theorem PB_t {P : Prop} (h : P) : PB P = true := @decide_eq_true P (Classical.propDecidable P) h
theorem PB_f {P : Prop} (h : ¬ P) : PB P = false := @decide_eq_false P (Classical.propDecidable P) h
theorem cnt_t {P : Nat → Bool} {n : Nat} (h : P n = true) : cnt P (n + 1) = cnt P n + 1 := by show cnt P n + (if P n then 1 else 0) = _; rw [h]; rfl
theorem cnt_f {P : Nat → Bool} {n : Nat} (h : P n = false) : cnt P (n + 1) = cnt P n := by show cnt P n + (if P n then 1 else 0) = _; rw [h]; rfl
theorem i32_add0 (x : Int32) : x + 0 = x := Int32.add_zero x
theorem thingsIn_loop {c : HS} {b : Nat} {la : Int32} (hb : b < 24) : ∀ m i f, i + m = 32 → m < f → pX3_thingsIn_5 c f (nI b) la (nI (cnt (fun k => decide (¬ c.1 7 (b * 32 + k) < la)) i)) (nI i) = some (nI (cnt (fun k => decide (¬ c.1 7 (b * 32 + k) < la)) 32)) := by
  intro m
  induction m with
  | zero =>
    intro i f hi hf
    obtain ⟨f, rfl⟩ : ∃ g, f = g + 1 := ⟨f - 1, by omega⟩
    unfold pX3_thingsIn_5
    rw [l32, if_pos (nI_le (by omega) (by omega)), show i = 32 by omega]
  | succ m ih =>
    intro i f hi hf
    obtain ⟨f, rfl⟩ : ∃ g, f = g + 1 := ⟨f - 1, by omega⟩
    have ih := ih (i + 1) f (by omega) (by omega)
    unfold pX3_thingsIn_5
    rw [l32, if_neg (nI_ge (by omega) (by omega)), pk_mul, nI_add, ldA_n (by omega) (by omega), nI_1, nI_1]
    by_cases he : c.1 7 (b * 32 + i) < la
    · rw [if_pos he]
      rw [cnt_f (decide_eq_false (fun h => h he))] at ih
      exact ih
    · rw [if_neg he]
      rw [cnt_t (decide_eq_true he)] at ih
      exact ih
theorem thingsIn_n {c : HS} {b : Nat} (la : Int32) (hb : b < 24) : pX3_thingsIn c (nI b) la = some (nI (cnt (fun k => decide (¬ c.1 7 (b * 32 + k) < la)) 32)) := thingsIn_loop hb 32 0 FU (by omega) (FU_ge (by omega))
theorem things_loop {c : HS} {B : Nat} {la : Int32} (hw : CW c B) : ∀ m i f, i + m = B → m < f → pX3_things_4 c f la (nI (cnt (fun k => decide (¬ c.1 7 k < la)) (i * 32))) (nI i) = some (nI (cnt (fun k => decide (¬ c.1 7 k < la)) (B * 32))) := by
  obtain ⟨w1, w2, w3, w4⟩ := hw
  intro m
  induction m with
  | zero =>
    intro i f hi hf
    obtain ⟨f, rfl⟩ : ∃ g, f = g + 1 := ⟨f - 1, by omega⟩
    unfold pX3_things_4
    rw [w3, if_pos (nI_le (by omega) (by omega)), show i = B by omega]
  | succ m ih =>
    intro i f hi hf
    obtain ⟨f, rfl⟩ : ∃ g, f = g + 1 := ⟨f - 1, by omega⟩
    have ih := ih (i + 1) f (by omega) (by omega)
    unfold pX3_things_4
    rw [w3, if_neg (nI_ge (by omega) (by omega)), thingsIn_n la (by omega), bd1_s, nI_add, nI_1, ← cnt_add (fun k => decide (¬ c.1 7 k < la)) (i * 32) 32, show i * 32 + 32 = (i + 1) * 32 by omega]
    exact ih
theorem things_n {c : HS} {B : Nat} (la : Int32) (hw : CW c B) : pX3_things c la = some (nI (cnt (fun k => decide (¬ c.1 7 k < la)) (B * 32))) := by
  have h := hw.2.1
  have := things_loop (la := la) hw B 0 FU (by omega) (FU_ge (by omega))
  rw [Nat.zero_mul] at this
  exact this
theorem thingsM_loop {t : HS} {B : Nat} (hw : MW t B) : ∀ m i f, i + m = 64 * B → m < f → pX5_things_4 t f (nI (cnt (fun a => decide (¬ t.1 6 a = 0)) i)) (nI i) = some (nI (cnt (fun a => decide (¬ t.1 6 a = 0)) (64 * B))) := by
  obtain ⟨w1, w2, w3⟩ := hw
  intro m
  induction m with
  | zero =>
    intro i f hi hf
    obtain ⟨f, rfl⟩ : ∃ g, f = g + 1 := ⟨f - 1, by omega⟩
    unfold pX5_things_4
    rw [w3, l64, pk_mul, if_pos (nI_le (by omega) (by omega)), show i = 64 * B by omega]
  | succ m ih =>
    intro i f hi hf
    obtain ⟨f, rfl⟩ : ∃ g, f = g + 1 := ⟨f - 1, by omega⟩
    have ih := ih (i + 1) f (by omega) (by omega)
    unfold pX5_things_4
    rw [w3, l64, pk_mul, if_neg (nI_ge (by omega) (by omega)), ldA_n (by omega) (by omega), nI_1, nI_1, i32_add0]
    by_cases he : t.1 6 i = 0
    · rw [if_pos he]
      rw [cnt_f (decide_eq_false (fun h => h he))] at ih
      exact ih
    · rw [if_neg he]
      rw [cnt_t (decide_eq_true he)] at ih
      exact ih
theorem thingsM_n {t : HS} {B : Nat} (hw : MW t B) : pX5_things t = some (nI (cnt (fun a => decide (¬ t.1 6 a = 0)) (64 * B))) := by
  have h := hw.2.1
  exact thingsM_loop hw (64 * B) 0 FU (by omega) (FU_ge (by omega))
theorem used_loop {t : HS} {b : Nat} (hb : b < 24) : ∀ m i f, i + m = 64 → m < f → pX5_used_7 t f (nI b) (nI (cnt (fun k => decide (¬ t.1 6 (64 * b + k) = 0)) i)) (nI (64 * b + i)) = some (nI (cnt (fun k => decide (¬ t.1 6 (64 * b + k) = 0)) 64)) := by
  intro m
  induction m with
  | zero =>
    intro i f hi hf
    obtain ⟨f, rfl⟩ : ∃ g, f = g + 1 := ⟨f - 1, by omega⟩
    unfold pX5_used_7
    rw [l64, pk_mul, nI_add, if_pos (nI_le (by omega) (by omega)), show i = 64 by omega]
  | succ m ih =>
    intro i f hi hf
    obtain ⟨f, rfl⟩ : ∃ g, f = g + 1 := ⟨f - 1, by omega⟩
    have ih := ih (i + 1) f (by omega) (by omega)
    unfold pX5_used_7
    rw [l64, pk_mul, nI_add, if_neg (nI_ge (by omega) (by omega)), ldA_n (by omega) (by omega), nI_1, nI_1, i32_add0, Nat.add_assoc]
    by_cases he : t.1 6 (64 * b + i) = 0
    · rw [if_pos he]
      rw [cnt_f (decide_eq_false (fun h => h he))] at ih
      exact ih
    · rw [if_neg he]
      rw [cnt_t (decide_eq_true he)] at ih
      exact ih
theorem used_n {t : HS} {b : Nat} (hb : b < 24) : pX5_used t (nI b) = some (nI (cnt (fun k => decide (¬ t.1 6 (64 * b + k) = 0)) 64)) := by
  unfold pX5_used
  rw [l64, pk_mul]
  exact used_loop hb 64 0 FU (by omega) (FU_ge (by omega))
theorem olds_loop {t : HS} {b : Nat} (hb : b < 24) : ∀ m i f, i + m = 64 → m < f → pX5_olds_7 t f (nI b) (nI (cnt (fun k => decide (¬ t.1 6 (64 * b + k) = 0 ∧ ¬ t.1 7 (64 * b + k) = 0)) i)) (nI (64 * b + i)) = some (nI (cnt (fun k => decide (¬ t.1 6 (64 * b + k) = 0 ∧ ¬ t.1 7 (64 * b + k) = 0)) 64)) := by
  intro m
  induction m with
  | zero =>
    intro i f hi hf
    obtain ⟨f, rfl⟩ : ∃ g, f = g + 1 := ⟨f - 1, by omega⟩
    unfold pX5_olds_7
    rw [l64, pk_mul, nI_add, if_pos (nI_le (by omega) (by omega)), show i = 64 by omega]
  | succ m ih =>
    intro i f hi hf
    obtain ⟨f, rfl⟩ : ∃ g, f = g + 1 := ⟨f - 1, by omega⟩
    have ih := ih (i + 1) f (by omega) (by omega)
    unfold pX5_olds_7
    rw [l64, pk_mul, nI_add, if_neg (nI_ge (by omega) (by omega)), ldA_n (by omega) (by omega), nI_1, nI_1, i32_add0, Nat.add_assoc, ldA_n (by omega) (by omega)]
    by_cases he : t.1 6 (64 * b + i) = 0
    · rw [if_pos he]
      rw [cnt_f (decide_eq_false (fun h => h.1 he))] at ih
      exact ih
    · rw [if_neg he]
      by_cases h2 : t.1 7 (64 * b + i) = 0
      · rw [if_pos h2]
        rw [cnt_f (decide_eq_false (fun h => h.2 h2))] at ih
        exact ih
      · rw [if_neg h2]
        rw [cnt_t (decide_eq_true ⟨he, h2⟩)] at ih
        exact ih
theorem olds_n {t : HS} {b : Nat} (hb : b < 24) : pX5_olds t (nI b) = some (nI (cnt (fun k => decide (¬ t.1 6 (64 * b + k) = 0 ∧ ¬ t.1 7 (64 * b + k) = 0)) 64)) := by
  unfold pX5_olds
  rw [l64, pk_mul]
  exact olds_loop hb 64 0 FU (by omega) (FU_ge (by omega))
theorem odd0 {t : HS} {B k : Nat} (hL : Lay t B) (hk : 2 * k + 1 < 1536) : t.1 6 (2 * k + 1) = 0 := by
  rcases beg01 hL hk with h | h
  · exact h
  · obtain ⟨r, n, -, -, -, -, hc⟩ := hL.2.2.2.2.1 _ hk h
    have := th_even hc
    omega
theorem ageb {c t : HS} (h : smAge c t) {k : Nat} (hk : k < 768) : decide (¬ c.1 7 k < 1) = decide (¬ t.1 6 (2 * k) = 0) ∧ decide (¬ c.1 7 k < 3) = decide (¬ t.1 6 (2 * k) = 0 ∧ ¬ t.1 7 (2 * k) = 0) := by
  rcases h k hk with h | h | h
  · rw [h.1, h.2]; exact ⟨by decide, by simp⟩
  · rw [h.1, h.2.1, h.2.2]; exact ⟨by decide, by decide⟩
  · rw [h.1, h.2.1, h.2.2]; exact ⟨by decide, by decide⟩
theorem used_eq {c t : HS} {B b : Nat} (hL : Lay t B) (h : smAge c t) (hb : b < 24) : cnt (fun k => decide (¬ t.1 6 (64 * b + k) = 0)) 64 = cnt (fun k => decide (¬ c.1 7 (b * 32 + k) < 1)) 32 := by
  refine cnt_two 32 (fun i hi => ⟨?_, ?_⟩)
  · show decide (¬ t.1 6 (64 * b + 2 * i) = 0) = decide (¬ c.1 7 (b * 32 + i) < 1)
    rw [(ageb h (k := b * 32 + i) (by omega)).1, show 64 * b + 2 * i = 2 * (b * 32 + i) by omega]
  · show decide (¬ t.1 6 (64 * b + (2 * i + 1)) = 0) = false
    rw [show 64 * b + (2 * i + 1) = 2 * (b * 32 + i) + 1 by omega, odd0 hL (by omega)]
    decide
theorem olds_eq {c t : HS} {B b : Nat} (hL : Lay t B) (h : smAge c t) (hb : b < 24) : cnt (fun k => decide (¬ t.1 6 (64 * b + k) = 0 ∧ ¬ t.1 7 (64 * b + k) = 0)) 64 = cnt (fun k => decide (¬ c.1 7 (b * 32 + k) < 3)) 32 := by
  refine cnt_two 32 (fun i hi => ⟨?_, ?_⟩)
  · show decide (¬ t.1 6 (64 * b + 2 * i) = 0 ∧ ¬ t.1 7 (64 * b + 2 * i) = 0) = decide (¬ c.1 7 (b * 32 + i) < 3)
    rw [(ageb h (k := b * 32 + i) (by omega)).2, show 64 * b + 2 * i = 2 * (b * 32 + i) by omega]
  · show decide (¬ t.1 6 (64 * b + (2 * i + 1)) = 0 ∧ ¬ t.1 7 (64 * b + (2 * i + 1)) = 0) = false
    rw [show 64 * b + (2 * i + 1) = 2 * (b * 32 + i) + 1 by omega, odd0 hL (by omega)]
    exact decide_eq_false (fun h => h.1 rfl)
theorem things_eq {c t : HS} {B : Nat} (hL : Lay t B) (h : smAge c t) : cnt (fun a => decide (¬ t.1 6 a = 0)) (64 * B) = cnt (fun k => decide (¬ c.1 7 k < 1)) (B * 32) := by
  have hB := hL.1.2.1
  rw [show 64 * B = 2 * (B * 32) by omega]
  refine cnt_two (B * 32) (fun i hi => ⟨(ageb h (k := i) (by omega)).1.symm, ?_⟩)
  show decide (¬ t.1 6 (2 * i + 1) = 0) = false
  rw [odd0 hL (by omega)]
  decide
