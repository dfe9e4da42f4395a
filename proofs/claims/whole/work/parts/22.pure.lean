def MW (t : HS) (B : Nat) : Prop := 1 ≤ B ∧ B ≤ 24 ∧ t.1 0 0 = nI B
theorem in_t {lo hi j : Nat} (h1 : lo ≤ j) (h2 : j < hi) (hh : hi < 2 ^ 31) : pX5_in (nI j) (nI lo) (nI hi - 1) = 1 := by
  unfold pX5_in
  obtain ⟨h, rfl⟩ : ∃ h, hi = h + 1 := ⟨hi - 1, by omega⟩
  rw [if_neg (nI_nlt h1 (by omega)), nI_pred, if_neg (nI_nlt (by omega) (by omega))]
theorem in_f {lo hi : Nat} {x : Int32} (hh : hi < 2 ^ 31) (hl : lo < 2 ^ 31) (hx : ∀ j, lo ≤ j → j < hi → ¬ x = nI j) : pX5_in x (nI lo) (nI hi - 1) = 0 := by
  unfold pX5_in
  by_cases h0 : x < nI lo
  · rw [if_pos h0]
  · rw [if_neg h0]
    rcases nI_ex x with h1 | ⟨j, hj, rfl⟩
    · exact absurd (Int32.lt_of_lt_of_le h1 (nI_pos' hl)) h0
    · have hlj : lo ≤ j := by
        by_cases h : lo ≤ j
        · exact h
        · exact absurd (nI_lt (by omega) hl) h0
      rw [if_pos]
      cases hi with
      | zero =>
        rw [Int32.lt_iff_toInt_lt, nI_toInt hj]
        have : (nI 0 - 1).toInt = -1 := by decide
        omega
      | succ h =>
        rw [nI_pred]
        by_cases hjh : j ≤ h
        · exact absurd rfl (hx j hlj (by omega))
        · exact nI_lt (by omega) hj
theorem inz_t {hi j : Nat} (h2 : j < hi) (hh : hi < 2 ^ 31) : pX5_in (nI j) 0 (nI hi - 1) = 1 := in_t (Nat.zero_le j) h2 hh
theorem inz_f {hi : Nat} {x : Int32} (hh : hi < 2 ^ 31) (hx : ∀ j, j < hi → ¬ x = nI j) : pX5_in x 0 (nI hi - 1) = 0 := in_f (lo := 0) hh (by omega) (fun j _ h => hx j h)
theorem isThingM_t {t : HS} {B a : Nat} (hw : MW t B) (h : a < 64 * B) (hb : ¬ t.1 6 a = 0) : pX5_isThing t (nI a) = some 1 := by
  obtain ⟨h1, h2, h3⟩ := hw
  unfold pX5_isThing
  rw [h3, l64, pk_mul, inz_t h (by omega), if_neg (by decide), ldA_n (by omega) (by omega), if_neg hb]
theorem isThingM_f {t : HS} {B : Nat} {x : Int32} (hw : MW t B) (h : ∀ a, a < 64 * B → x = nI a → t.1 6 a = 0) : pX5_isThing t x = some 0 := by
  obtain ⟨h1, h2, h3⟩ := hw
  unfold pX5_isThing
  rw [h3, l64, pk_mul]
  by_cases hx : ∃ a, a < 64 * B ∧ x = nI a
  · obtain ⟨a, ha, rfl⟩ := hx
    rw [inz_t ha (by omega), if_neg (by decide), ldA_n (by omega) (by omega), if_pos (h a ha rfl)]
  · rw [inz_f (by omega) (fun j hj e => hx ⟨j, hj, e⟩), if_pos rfl]
theorem sizeM {t : HS} {a r n : Nat} (ha : a < 1536) (hr : t.1 9 a = nI r) (hn : t.1 10 a = nI n) : pX5_size t (nI a) = some (nI (r + n)) := by
  unfold pX5_size
  rw [ldA_n ha (by omega), ldA_n ha (by omega), hr, hn, nI_add]
theorem blocksOfM {t : HS} {a r n : Nat} (ha : a < 1536) (hr : t.1 9 a = nI r) (hn : t.1 10 a = nI n) (h : r + n ≤ 256) : pX5_blocksOf t (nI a) = some (nI ((r + n + 63) / 64)) := by
  unfold pX5_blocksOf
  rw [sizeM ha hr hn, bd1_s, l64, nI_add, l1, pk_sub (by omega), pk_div (by omega) (by omega) (by omega)]
  rfl
