theorem freeBl_loop {c : HS} {B : Nat} (hw : CW c B) : ∀ m i f, i + m = B → m < f → pX3_freeBlocks_4 c f (nI (cnt (fun b => decide (c.1 1 b = 0)) i)) (nI i) = some (nI (cnt (fun b => decide (c.1 1 b = 0)) B)) := by
  obtain ⟨w1, w2, w3, w4⟩ := hw
  intro m
  induction m with
  | zero =>
    intro i f hi hf
    obtain ⟨f, rfl⟩ : ∃ g, f = g + 1 := ⟨f - 1, by omega⟩
    unfold pX3_freeBlocks_4
    rw [w3, if_pos (nI_le (by omega) (by omega)), show i = B by omega]
  | succ m ih =>
    intro i f hi hf
    obtain ⟨f, rfl⟩ : ∃ g, f = g + 1 := ⟨f - 1, by omega⟩
    have ih := ih (i + 1) f (by omega) (by omega)
    unfold pX3_freeBlocks_4
    rw [w3, if_neg (nI_ge (by omega) (by omega)), ldA_n (by omega) (by omega), nI_1, nI_1]
    by_cases he : c.1 1 i = 0
    · rw [if_pos he]
      rw [cnt_t (decide_eq_true he)] at ih
      exact ih
    · rw [if_neg he]
      rw [cnt_f (decide_eq_false he)] at ih
      exact ih
theorem freeBl_n {c : HS} {B : Nat} (hw : CW c B) : pX3_freeBlocks c = some (nI (cnt (fun b => decide (c.1 1 b = 0)) B)) := by
  have h := hw.2.1
  exact freeBl_loop hw B 0 FU (by omega) (FU_ge (by omega))
theorem cnt102_loop {t : HS} {B : Nat} (hw : MW t B) : ∀ m i f, i + m = B → m < f → pX5_count_102 t f (nI (cnt (fun b => decide (t.1 1 b = 0)) i)) (nI i) = some (nI (cnt (fun b => decide (t.1 1 b = 0)) B)) := by
  obtain ⟨w1, w2, w3⟩ := hw
  intro m
  induction m with
  | zero =>
    intro i f hi hf
    obtain ⟨f, rfl⟩ : ∃ g, f = g + 1 := ⟨f - 1, by omega⟩
    unfold pX5_count_102
    rw [w3, if_pos (nI_le (by omega) (by omega)), show i = B by omega]
  | succ m ih =>
    intro i f hi hf
    obtain ⟨f, rfl⟩ : ∃ g, f = g + 1 := ⟨f - 1, by omega⟩
    have ih := ih (i + 1) f (by omega) (by omega)
    unfold pX5_count_102
    rw [w3, if_neg (nI_ge (by omega) (by omega)), ldA_n (by omega) (by omega), nI_1, nI_1, i32_add0]
    by_cases he : t.1 1 i = 0
    · rw [if_pos he]
      rw [cnt_t (decide_eq_true he)] at ih
      exact ih
    · rw [if_neg he]
      rw [cnt_f (decide_eq_false he)] at ih
      exact ih
theorem barBl_loop {c : HS} {B : Nat} (hw : CW c B) (h01 : ∀ b, b < 24 → c.1 3 b = 0 ∨ c.1 3 b = 1) : ∀ m i f, i + m = B → m < f → pX3_barredBlocks_4 c f (nI (cnt (fun b => decide (¬ c.1 3 b = 0)) i)) (nI i) = some (nI (cnt (fun b => decide (¬ c.1 3 b = 0)) B)) := by
  obtain ⟨w1, w2, w3, w4⟩ := hw
  intro m
  induction m with
  | zero =>
    intro i f hi hf
    obtain ⟨f, rfl⟩ : ∃ g, f = g + 1 := ⟨f - 1, by omega⟩
    unfold pX3_barredBlocks_4
    rw [w3, if_pos (nI_le (by omega) (by omega)), show i = B by omega]
  | succ m ih =>
    intro i f hi hf
    obtain ⟨f, rfl⟩ : ∃ g, f = g + 1 := ⟨f - 1, by omega⟩
    have ih := ih (i + 1) f (by omega) (by omega)
    unfold pX3_barredBlocks_4
    rw [w3, if_neg (nI_ge (by omega) (by omega)), ldA_n (by omega) (by omega), nI_1]
    rcases h01 i (by omega) with he | he
    · rw [he, i32_add0]
      rw [cnt_f (decide_eq_false (fun h => h he))] at ih
      exact ih
    · rw [he, nI_1]
      rw [cnt_t (decide_eq_true (by rw [he]; decide))] at ih
      exact ih
theorem cnt137_loop {t : HS} {B : Nat} (hw : MW t B) : ∀ m i f, i + m = B → m < f → pX5_count_137 t f (nI (cnt (fun b => decide (¬ t.1 4 b = 0)) i)) (nI i) = some (nI (cnt (fun b => decide (¬ t.1 4 b = 0)) B)) := by
  obtain ⟨w1, w2, w3⟩ := hw
  intro m
  induction m with
  | zero =>
    intro i f hi hf
    obtain ⟨f, rfl⟩ : ∃ g, f = g + 1 := ⟨f - 1, by omega⟩
    unfold pX5_count_137
    rw [w3, if_pos (nI_le (by omega) (by omega)), show i = B by omega]
  | succ m ih =>
    intro i f hi hf
    obtain ⟨f, rfl⟩ : ∃ g, f = g + 1 := ⟨f - 1, by omega⟩
    have ih := ih (i + 1) f (by omega) (by omega)
    unfold pX5_count_137
    rw [w3, if_neg (nI_ge (by omega) (by omega)), ldA_n (by omega) (by omega), nI_1, nI_1, i32_add0]
    by_cases he : t.1 4 i = 0
    · rw [if_pos he]
      rw [cnt_f (decide_eq_false (fun h => h he))] at ih
      exact ih
    · rw [if_neg he]
      rw [cnt_t (decide_eq_true he)] at ih
      exact ih
theorem cnt76_loop {t : HS} {B : Nat} (hw : MW t B) : ∀ m i f, i + m = B → m < f → pX5_count_76 t f (nI (cnt (fun a => decide (¬ t.1 6 a = 0 ∧ ¬ t.1 7 a = 0)) (64 * i))) (nI i) = some (nI (cnt (fun a => decide (¬ t.1 6 a = 0 ∧ ¬ t.1 7 a = 0)) (64 * B))) := by
  obtain ⟨w1, w2, w3⟩ := hw
  intro m
  induction m with
  | zero =>
    intro i f hi hf
    obtain ⟨f, rfl⟩ : ∃ g, f = g + 1 := ⟨f - 1, by omega⟩
    unfold pX5_count_76
    rw [w3, if_pos (nI_le (by omega) (by omega)), show i = B by omega]
  | succ m ih =>
    intro i f hi hf
    obtain ⟨f, rfl⟩ : ∃ g, f = g + 1 := ⟨f - 1, by omega⟩
    have ih := ih (i + 1) f (by omega) (by omega)
    unfold pX5_count_76
    rw [w3, if_neg (nI_ge (by omega) (by omega)), olds_n (by omega), bd1_s, nI_add, nI_1, ← cnt_add (fun a => decide (¬ t.1 6 a = 0 ∧ ¬ t.1 7 a = 0)) (64 * i) 64, show 64 * i + 64 = 64 * (i + 1) by omega]
    exact ih
theorem oldsAll_eq {c t : HS} {B : Nat} (hL : Lay t B) (h : smAge c t) : cnt (fun a => decide (¬ t.1 6 a = 0 ∧ ¬ t.1 7 a = 0)) (64 * B) = cnt (fun k => decide (¬ c.1 7 k < 3)) (B * 32) := by
  have hB := hL.1.2.1
  rw [show 64 * B = 2 * (B * 32) by omega]
  refine cnt_two (B * 32) (fun i hi => ⟨(ageb h (k := i) (by omega)).2.symm, ?_⟩)
  show decide (¬ t.1 6 (2 * i + 1) = 0 ∧ ¬ t.1 7 (2 * i + 1) = 0) = false
  rw [odd0 hL (by omega)]
  exact decide_eq_false (fun h => h.1 rfl)
/- a thing that is remembered -/
def Pr (t : HS) (a : Nat) : Prop := t.1 6 a = 1 ∧ t.1 7 a = 1 ∧ ∃ r, r ≤ 256 ∧ t.1 9 a = nI r ∧ rem t a r
theorem Pr_iff {t : HS} {B a r : Nat} (hL : Lay t B) (h1 : a < 1536) (h2 : t.1 6 a = 1) (hr : t.1 9 a = nI r) (h256 : r ≤ 256) : Pr t a ↔ (t.1 7 a = 1 ∧ rem t a r) := by
  constructor
  · rintro ⟨g1, g2, r', g3, g4, g5⟩
    have : r' = r := (nI_eq (by omega) (by omega)).mp (g4.symm.trans hr)
    subst this
    exact ⟨g2, g5⟩
  · rintro ⟨g1, g2⟩
    exact ⟨h2, g1, r, h256, hr, g2⟩
def oldIff (c t : HS) : Prop := ∀ a, a < 1536 → a % 2 = 0 → t.1 6 a = 1 → (c.1 7 (a / 2) = 3 ↔ t.1 7 a = 1)
theorem oldIff_of {c t : HS} (h : smAge c t) : oldIff c t := by
  intro a ha he h2
  rcases age_old h ha he h2 with ⟨g1, g2⟩ | ⟨g1, g2⟩
  · rw [g1, g2]; decide
  · rw [g1, g2]; decide
theorem counts_Pr {c t : HS} {B a : Nat} (hG : Geo c t B) (hR : Rm c t) (ho : oldIff c t) (h1 : a < 1536) : (Pr t a → pX2_counts c (nI a) = some 1) ∧ (¬ Pr t a → pX2_counts c (nI a) = some 0) := by
  rcases beg01 hG.2.1 h1 with h0 | h0
  · refine ⟨fun h => ?_, fun _ => countsC_f hG h1 (by rw [h0]; decide)⟩
    have h9 := h.1
    rw [h0] at h9
    exact absurd h9 (by decide)
  · obtain ⟨r, n, a1, a2, a3, a4, a5, a6, a7, a8, a9, a10⟩ := geo_rn hG h1 h0
    have hc := countsC hG hR h1 h0 a1 (by omega) (ho a h1 a8 h0)
    have hi := Pr_iff hG.2.1 h1 h0 a1 (by omega)
    exact ⟨fun h => hc.1 (hi.mp h), fun h => hc.2 (fun g => h (hi.mpr g))⟩
theorem isRem_Pr {t : HS} {B a : Nat} (hL : Lay t B) (hs : ivSc t) (h1 : a < 1536) (h0 : t.1 6 a = 1) : (Pr t a → pX5_isRemembered t (nI a) = some 1) ∧ (¬ Pr t a → pX5_isRemembered t (nI a) = some 0) := by
  obtain ⟨r, n, a1, a2, a3, a4, a5⟩ := hL.2.2.2.2.1 a h1 h0
  have hc := isRemM hL hs h1 h0 a1 (by omega)
  have hi := Pr_iff hL h1 h0 a1 (by omega)
  exact ⟨fun h => hc.1 (hi.mp h), fun h => hc.2 (fun g => h (hi.mpr g))⟩
theorem inlog_loop {c t : HS} {B : Nat} (hG : Geo c t B) (hR : Rm c t) (ho : oldIff c t) : ∀ m i f, i + m = 32 * B → m < f → pX4_thingsInLog_4 c f (nI (cnt (fun k => PB (Pr t (2 * k))) i)) (nI (2 * i)) = some (nI (cnt (fun k => PB (Pr t (2 * k))) (32 * B))) := by
  obtain ⟨w1, w2, w3, w4⟩ := hG.1
  intro m
  induction m with
  | zero =>
    intro i f hi hf
    obtain ⟨f, rfl⟩ : ∃ g, f = g + 1 := ⟨f - 1, by omega⟩
    unfold pX4_thingsInLog_4
    rw [w4, if_pos (nI_le (by omega) (by omega)), show i = 32 * B by omega]
  | succ m ih =>
    intro i f hi hf
    obtain ⟨f, rfl⟩ : ∃ g, f = g + 1 := ⟨f - 1, by omega⟩
    have ih := ih (i + 1) f (by omega) (by omega)
    have hc := counts_Pr hG hR ho (a := 2 * i) (by omega)
    unfold pX4_thingsInLog_4
    rw [w4, if_neg (nI_ge (by omega) (by omega)), nI_1, l2, nI_add, show 2 * i + 2 = 2 * (i + 1) by omega]
    by_cases he : Pr t (2 * i)
    · rw [hc.1 he, bd1_s, if_neg (by decide)]
      rw [cnt_t (PB_t he)] at ih
      exact ih
    · rw [hc.2 he, bd1_s, if_pos rfl]
      rw [cnt_f (PB_f he)] at ih
      exact ih
theorem cnt172_loop {t : HS} {B : Nat} (hL : Lay t B) (hs : ivSc t) : ∀ m i f, i + m = 64 * B → m < f → pX5_count_172 t f (nI (cnt (fun a => PB (Pr t a)) i)) (nI i) = some (nI (cnt (fun a => PB (Pr t a)) (64 * B))) := by
  obtain ⟨w1, w2, w3⟩ := hL.1
  intro m
  induction m with
  | zero =>
    intro i f hi hf
    obtain ⟨f, rfl⟩ : ∃ g, f = g + 1 := ⟨f - 1, by omega⟩
    unfold pX5_count_172
    rw [w3, l64, pk_mul, if_pos (nI_le (by omega) (by omega)), show i = 64 * B by omega]
  | succ m ih =>
    intro i f hi hf
    obtain ⟨f, rfl⟩ : ∃ g, f = g + 1 := ⟨f - 1, by omega⟩
    have ih := ih (i + 1) f (by omega) (by omega)
    unfold pX5_count_172
    rw [w3, l64, pk_mul, if_neg (nI_ge (by omega) (by omega)), ldA_n (by omega) (by omega), nI_1, nI_1, i32_add0]
    rcases beg01 hL (a := i) (by omega) with h0 | h0
    · rw [if_pos h0]
      rw [cnt_f (PB_f (fun h => by have h9 := h.1; rw [h0] at h9; exact absurd h9 (by decide)))] at ih
      exact ih
    · rw [if_neg (by rw [h0]; decide)]
      have hc := isRem_Pr hL hs (a := i) (by omega) h0
      by_cases he : Pr t i
      · rw [hc.1 he, bd1_s, if_neg (by decide)]
        rw [cnt_t (PB_t he)] at ih
        exact ih
      · rw [hc.2 he, bd1_s, if_pos rfl]
        rw [cnt_f (PB_f he)] at ih
        exact ih
theorem Pr_eq {t : HS} {B : Nat} (hL : Lay t B) : cnt (fun a => PB (Pr t a)) (64 * B) = cnt (fun k => PB (Pr t (2 * k))) (32 * B) := by
  have hB := hL.1.2.1
  rw [show 64 * B = 2 * (32 * B) by omega]
  refine cnt_two (32 * B) (fun i hi => ⟨rfl, PB_f (fun h => ?_)⟩)
  have := h.1
  rw [odd0 hL (by omega)] at this
  exact absurd this (by decide)
theorem op_count {c t : HS} (h : RR c t) (w : Int32) : ∃ r, pX4_count c w = some r ∧ pX5_count t w = some r := by
  obtain ⟨B, hS, hI⟩ := h
  have hw := hS.1
  have hM := hI.1.1
  have hB := hw.2.1
  have hG := geo_of hS hI
  obtain ⟨z1, z2, z3, z4, z5, z6, z7, z8, z9, y1, y2, y3, y4, y5, y6, y7, y8, y9, y10, y11⟩ := id hS
  unfold pX4_count pX5_count
  by_cases w0 : w = 0
  · rw [if_pos w0, if_pos w0, hw.2.2.1, hM.2.2]
    exact ⟨_, rfl, rfl⟩
  rw [if_neg w0, if_neg w0]
  by_cases w1 : w = 1
  · rw [if_pos w1, if_pos w1, things_n 1 hw, thingsM_n hM, bd1_s, bd1_s, things_eq hI.1 z2]
    exact ⟨_, rfl, rfl⟩
  rw [if_neg w1, if_neg w1]
  by_cases w2 : w = 2
  · have h76 : pX5_count_76 t FU 0 0 = _ := cnt76_loop hM B 0 FU (by omega) (FU_ge (by omega))
    rw [if_pos w2, if_pos w2, things_n 3 hw, bd1_s, h76, oldsAll_eq hI.1 z2]
    exact ⟨_, rfl, rfl⟩
  rw [if_neg w2, if_neg w2]
  by_cases w3 : w = 3
  · have h102 : pX5_count_102 t FU 0 0 = _ := cnt102_loop hM B 0 FU (by omega) (FU_ge (by omega))
    rw [if_pos w3, if_pos w3, freeBl_n hw, bd1_s, h102, cnt_congr B (fun b hb => by rw [(z4 b (by omega)).1])]
    exact ⟨_, rfl, rfl⟩
  rw [if_neg w3, if_neg w3]
  by_cases w4 : w = 4
  · have h137 : pX5_count_137 t FU 0 0 = _ := cnt137_loop hM B 0 FU (by omega) (FU_ge (by omega))
    have hbb : pX3_barredBlocks c = _ := barBl_loop hw (fun b hb => by rw [(z4 b hb).2.1]; exact (hI.1.2.2.2.1 b hb).2) B 0 FU (by omega) (FU_ge (by omega))
    rw [if_pos w4, if_pos w4, hbb, bd1_s, h137, cnt_congr B (fun b hb => by rw [(z4 b (by omega)).2.1])]
    exact ⟨_, rfl, rfl⟩
  rw [if_neg w4, if_neg w4]
  by_cases w5 : w = 5
  · have h172 : pX5_count_172 t FU 0 0 = _ := cnt172_loop hI.1 hI.2.2.2.2 (64 * B) 0 FU (by omega) (FU_ge (by omega))
    have hl : pX4_thingsInLog c = _ := inlog_loop hG (rm_of hS hI) (oldIff_of z2) (32 * B) 0 FU (by omega) (FU_ge (by omega))
    rw [if_pos w5, if_pos w5, hl, bd1_s, h172, Pr_eq hI.1]
    exact ⟨_, rfl, rfl⟩
  rw [if_neg w5, if_neg w5]
  by_cases w6 : w = 6
  · rw [if_pos w6, if_pos w6, y3]
    rcases hI.2.2.2.2.2.1 with e | e
    · rw [e, if_pos rfl]
      exact ⟨_, rfl, rfl⟩
    · rw [e, if_neg (by decide)]
      exact ⟨_, rfl, rfl⟩
  rw [if_neg w6, if_neg w6]
  by_cases w7 : w = 7
  · rw [if_pos w7, if_pos w7, y11]
    exact ⟨_, rfl, rfl⟩
  rw [if_neg w7, if_neg w7]
  by_cases w8 : w = 8
  · rw [if_pos w8, if_pos w8, y5]
    exact ⟨_, rfl, rfl⟩
  rw [if_neg w8, if_neg w8]
  by_cases w9 : w = 9
  · rw [if_pos w9, if_pos w9, y6]
    exact ⟨_, rfl, rfl⟩
  rw [if_neg w9, if_neg w9]
  by_cases w10 : w = 10
  · rw [if_pos w10, if_pos w10, y7]
    exact ⟨_, rfl, rfl⟩
  rw [if_neg w10, if_neg w10]
  by_cases w11 : w = 11
  · rw [if_pos w11, if_pos w11, y8]
    exact ⟨_, rfl, rfl⟩
  rw [if_neg w11, if_neg w11]
  exact ⟨_, rfl, rfl⟩
