theorem FU_ge {n : Nat} (h : n < 100000) : n < FU := by unfold FU; exact h
def CW (c : HS) (B : Nat) : Prop := 1 ≤ B ∧ B ≤ 24 ∧ c.1 0 0 = nI B ∧ c.1 0 1 = nI (64 * B)
def tb (c : HS) (B a : Nat) : Prop := a < 64 * B ∧ a % 2 = 0 ∧ ¬ c.1 7 (a / 2) = 0
theorem isThing_t {c : HS} {B a : Nat} (hw : CW c B) (h : tb c B a) : pX3_isThing c (nI a) = some 1 := by
  obtain ⟨h1, h2, h3, h4⟩ := hw
  obtain ⟨g1, g2, g3⟩ := h
  unfold pX3_isThing
  rw [h4, if_neg (nI_pos (by omega)), if_neg (nI_ge g1 (by omega)), l2, pk_div (by omega) (by omega) (by omega), pk_rem2 (by omega) (by omega) (by omega), g2, if_pos nI_0, ldA_n (by omega) (by omega), if_neg g3]
theorem isThing_f {c : HS} {B : Nat} {x : Int32} (hw : CW c B) (h : ∀ a, a < 1536 → x = nI a → ¬ tb c B a) : pX3_isThing c x = some 0 := by
  obtain ⟨h1, h2, h3, h4⟩ := hw
  unfold pX3_isThing
  rcases nI_ex x with hx | ⟨j, hj, rfl⟩
  · rw [if_pos hx]
  · rw [h4, if_neg (nI_pos hj)]
    by_cases g1 : 64 * B ≤ j
    · rw [if_pos (nI_le g1 hj)]
    · rw [if_neg (nI_ge (by omega) (by omega)), l2, pk_div (by omega) (by omega) (by omega), pk_rem2 (by omega) (by omega) (by omega)]
      have hn := h j (by omega) rfl
      by_cases g2 : j % 2 = 0
      · rw [g2, if_pos nI_0, ldA_n (by omega) (by omega)]
        by_cases g3 : c.1 7 (j / 2) = 0
        · rw [if_pos g3]
        · exact absurd ⟨by omega, g2, g3⟩ hn
      · rw [if_neg]
        show ¬ nI (j % 2) = nI 0
        rw [nI_eq (by omega) (by omega)]
        exact g2
theorem tb_or (c : HS) (B : Nat) (x : Int32) : (∃ a, a < 1536 ∧ x = nI a ∧ tb c B a) ∨ ∀ a, a < 1536 → x = nI a → ¬ tb c B a := by
  by_cases h : ∃ a, a < 1536 ∧ x = nI a ∧ tb c B a
  · exact Or.inl h
  · exact Or.inr (fun a ha hx ht => h ⟨a, ha, hx, ht⟩)
theorem ageOf_t {c : HS} {B a : Nat} (hw : CW c B) (h : tb c B a) : pX3_ageOf c (nI a) = some (c.1 7 (a / 2)) := by
  unfold pX3_ageOf
  have hB := hw.2.1
  have ha := h.1
  rw [isThing_t hw h, bd1_s, if_neg (by decide), l2, pk_div (by omega) (by omega) (by omega), ldA_n (by omega) (by omega)]
theorem ageOf_f {c : HS} {B : Nat} {x : Int32} (hw : CW c B) (h : ∀ a, a < 1536 → x = nI a → ¬ tb c B a) : pX3_ageOf c x = some 0 := by
  unfold pX3_ageOf
  rw [isThing_f hw h, bd1_s, if_pos rfl]
theorem referencesOf_t {c : HS} {B a : Nat} (hw : CW c B) (h : tb c B a) : pX3_referencesOf c (nI a) = some (c.1 5 (a / 2)) := by
  unfold pX3_referencesOf
  have hB := hw.2.1
  have ha := h.1
  rw [isThing_t hw h, bd1_s, if_neg (by decide), l2, pk_div (by omega) (by omega) (by omega), ldA_n (by omega) (by omega)]
theorem numbersOf_t {c : HS} {B a : Nat} (hw : CW c B) (h : tb c B a) : pX3_numbersOf c (nI a) = some (c.1 6 (a / 2)) := by
  unfold pX3_numbersOf
  have hB := hw.2.1
  have ha := h.1
  rw [isThing_t hw h, bd1_s, if_neg (by decide), l2, pk_div (by omega) (by omega) (by omega), ldA_n (by omega) (by omega)]
theorem sizeOf_t {c : HS} {B a r n : Nat} (hw : CW c B) (h : tb c B a) (hr : c.1 5 (a / 2) = nI r) (hn : c.1 6 (a / 2) = nI n) : pX3_sizeOf c (nI a) = some (nI (r + n)) := by
  unfold pX3_sizeOf
  rw [referencesOf_t hw h, bd1_s, numbersOf_t hw h, bd1_s, hr, hn, nI_add]
theorem hasRef_t {c : HS} {B a r i : Nat} (hw : CW c B) (h : tb c B a) (hr : c.1 5 (a / 2) = nI r) (h256 : r ≤ 256) (hi : i < r) : pX3_hasReference c (nI a) (nI i) = some 1 := by
  unfold pX3_hasReference
  rw [if_neg (nI_pos (by omega)), referencesOf_t hw h, bd1_s, hr, if_neg (nI_ge hi (by omega))]
theorem hasRef_f {c : HS} {B a r : Nat} {x : Int32} (hw : CW c B) (h : tb c B a) (hr : c.1 5 (a / 2) = nI r) (h256 : r ≤ 256) (hi : ∀ i, i < r → ¬ x = nI i) : pX3_hasReference c (nI a) x = some 0 := by
  unfold pX3_hasReference
  rcases pk_ix x (n := r) (by omega) with h1 | h1 | ⟨j, h1, h2⟩
  · rw [if_pos h1]
  · rcases nI_ex x with h2 | ⟨j, hj, rfl⟩
    · rw [if_pos h2]
    · rw [if_neg (nI_pos hj), referencesOf_t hw h, bd1_s, hr, if_pos h1]
  · exact absurd h2 (hi j h1)
theorem hasNum_t {c : HS} {B a r n i : Nat} (hw : CW c B) (h : tb c B a) (hr : c.1 5 (a / 2) = nI r) (hn : c.1 6 (a / 2) = nI n) (h256 : r + n ≤ 256) (h1 : r ≤ i) (h2 : i < r + n) : pX3_hasNumber c (nI a) (nI i) = some 1 := by
  unfold pX3_hasNumber
  rw [referencesOf_t hw h, bd1_s, hr, if_neg (nI_nlt h1 (by omega)), sizeOf_t hw h hr hn, bd1_s, if_neg (nI_ge h2 (by omega))]
theorem hasNum_f {c : HS} {B a r n : Nat} {x : Int32} (hw : CW c B) (h : tb c B a) (hr : c.1 5 (a / 2) = nI r) (hn : c.1 6 (a / 2) = nI n) (h256 : r + n ≤ 256) (hi : ∀ i, r ≤ i → i < r + n → ¬ x = nI i) : pX3_hasNumber c (nI a) x = some 0 := by
  unfold pX3_hasNumber
  rw [referencesOf_t hw h, bd1_s, hr]
  by_cases h0 : x < nI r
  · rw [if_pos h0]
  · rw [if_neg h0, sizeOf_t hw h hr hn, bd1_s]
    rcases pk_ix x (n := r + n) (by omega) with h1 | h1 | ⟨j, h1, h2⟩
    · exact absurd (Int32.lt_of_lt_of_le h1 (nI_pos' (by omega))) h0
    · rw [if_pos h1]
    · by_cases h3 : r ≤ j
      · exact absurd h2 (hi j h3 h1)
      · exact absurd (by rw [h2]; exact nI_lt (by omega) (by omega)) h0
theorem thOrNone_n {c : HS} : pX4_isThingOrNone c (-1) = some 1 := by unfold pX4_isThingOrNone; rw [if_pos rfl]
theorem thOrNone_t {c : HS} {B a : Nat} (hw : CW c B) (h : tb c B a) : pX4_isThingOrNone c (nI a) = some 1 := by
  unfold pX4_isThingOrNone
  have hB := hw.2.1
  have ha := h.1
  rw [isThing_t hw h]
  by_cases hx : nI a = -1
  · rw [if_pos hx]
  · rw [if_neg hx, bd1_s, if_neg (by decide)]
theorem thOrNone_f {c : HS} {B : Nat} {x : Int32} (hw : CW c B) (hx : ¬ x = -1) (h : ∀ a, a < 1536 → x = nI a → ¬ tb c B a) : pX4_isThingOrNone c x = some 0 := by
  unfold pX4_isThingOrNone
  rw [if_neg hx, isThing_f hw h, bd1_s, if_pos rfl]
