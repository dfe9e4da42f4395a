def Rm (c t : HS) : Prop := ivSc t ∧ c.1 0 2 = t.1 0 5 ∧ c.1 0 3 = t.1 0 2 ∧ c.1 0 4 = t.1 0 3 ∧ smLog c t ∧ (∀ b, b < 24 → c.1 9 b = t.1 3 b) ∧ ivBlk t
theorem rm_of {c t : HS} {B : Nat} (hS : Sim c t B) (hI : Inv t B) : Rm c t := ⟨hI.2.2.2.2, hS.2.2.2.2.2.2.2.2.2.1, hS.2.2.2.2.2.2.2.2.2.2.1, hS.2.2.2.2.2.2.2.2.2.2.2.1, hS.2.2.2.2.2.2.2.2.1, fun b hb => (hS.2.2.2.1 b hb).2.2, hI.1.2.2.2.1⟩
theorem end_le {t : HS} {B a r n : Nat} (hM : MW t B) (ha : a < 1536) (h : inCell t B a r n) (h256 : r + n ≤ 256) (h1 : 1 ≤ r + n) : a + (r + n) ≤ 1536 := by
  have := th_in hM ha h (i := r + n - 1) (by omega) h256
  omega
theorem countsC {c t : HS} {B a r : Nat} (hG : Geo c t B) (hR : Rm c t) (h1 : a < 1536) (h2 : t.1 6 a = 1) (hr : t.1 9 a = nI r) (hr2 : r ≤ 256) (ho : c.1 7 (a / 2) = 3 ↔ t.1 7 a = 1) : ((t.1 7 a = 1 ∧ rem t a r) → pX2_counts c (nI a) = some 1) ∧ (¬ (t.1 7 a = 1 ∧ rem t a r) → pX2_counts c (nI a) = some 0) := by
  obtain ⟨r', n, a1, a2, a3, a4, a5, a6, a7, a8, a9, a10⟩ := geo_rn hG h1 h2
  have er : r' = r := (nI_eq (by omega) (by omega)).mp (a1.symm.trans hr)
  subst er
  have hend := end_le hG.2.1.1 h1 a5 a4 a3
  obtain ⟨⟨s1, s2, s3, ⟨q, hq, s4⟩, s5⟩, y1, y2, y3, y4, y5, y6⟩ := hR
  unfold pX2_counts
  rw [ageOf_t hG.1 a9, bd1_s]
  by_cases hold : t.1 7 a = 1
  case neg =>
    rw [if_neg (fun h => hold (ho.mp h))]
    exact ⟨fun h => absurd h.1 hold, fun _ => rfl⟩
  rw [if_pos (ho.mpr hold), y1]
  rcases s1 with s1 | s1
  · rw [s1, if_neg (by decide), y3]
    rcases s2 with s2 | s2
    · rw [s2, if_pos rfl]
      by_cases hin : ∃ k, k < q ∧ t.1 13 k = nI a
      · have hin' : ∃ k, k < q ∧ c.1 8 k = nI a := by
          obtain ⟨k, k1, k2⟩ := hin
          exact ⟨k, k1, (y4 k (by omega)).trans k2⟩
        rw [inLogC_t (y2.trans s4) hq hin', bd1_s, if_neg (by decide)]
        refine ⟨fun _ => rfl, fun h => absurd ⟨hold, Or.inl ⟨s1, Or.inr ?_⟩⟩ h⟩
        obtain ⟨k, k1, k2⟩ := hin
        exact ⟨k, q, s4, hq, k1, k2⟩
      · have hf : ∀ k, k < q → ¬ c.1 8 k = nI a := fun k k1 k2 => hin ⟨k, k1, (y4 k (by omega)).symm.trans k2⟩
        rw [inLogC_f (y2.trans s4) hq hf, bd1_s, if_pos rfl]
        refine ⟨fun h => ?_, fun _ => rfl⟩
        rcases h.2 with ⟨-, e | ⟨k, m, e1, e2, e3, e4⟩⟩ | ⟨e, -⟩
        · rw [s2] at e; exact absurd e (by decide)
        · have hm : m = q := (nI_eq (by omega) (by omega)).mp (e1.symm.trans s4)
          subst hm
          exact absurd ⟨k, e3, e4⟩ hin
        · rw [s1] at e; exact absurd e (by decide)
    · rw [s2, if_neg (by decide)]
      exact ⟨fun _ => rfl, fun h => absurd ⟨hold, Or.inl ⟨s1, Or.inl s2⟩⟩ h⟩
  · rw [s1, if_pos rfl, referencesOf_t hG.1 a9, bd1_s, a6]
    have hT := touchC_loop (c := c) (a := a) (r := r') (by omega) r' 0 FU (by omega) (FU_ge (by omega))
    have hu : pX2_touchesDirty c (nI a) (nI r') = pX2_touchesDirty_2 c FU (nI a) (nI r') (nI 0) := rfl
    rw [hu]
    by_cases hd : ∃ k, k < r' ∧ t.1 3 ((a + k) / 64) = 1
    · obtain ⟨k, k1, k2⟩ := hd
      rw [hT.1 ⟨k, by omega, k1, (y5 _ (by omega)).trans k2⟩, bd1_s, gdZ_s (Or.inr rfl)]
      exact ⟨fun _ => rfl, fun h => absurd ⟨hold, Or.inr ⟨s1, k, k1, k2⟩⟩ h⟩
    · rw [hT.2 (fun k _ k1 k2 => hd ⟨k, k1, (y5 _ (by omega)).symm.trans k2⟩), bd1_s, gdZ_s (Or.inl rfl)]
      refine ⟨fun h => ?_, fun _ => rfl⟩
      rcases h.2 with ⟨e, -⟩ | ⟨-, e⟩
      · rw [s1] at e; exact absurd e (by decide)
      · exact absurd e hd
theorem countsC_f {c t : HS} {B : Nat} (hG : Geo c t B) {a : Nat} (ha : a < 1536) (h : ¬ t.1 6 a = 1) : pX2_counts c (nI a) = some 0 := by
  unfold pX2_counts
  rw [ageOf_f hG.1 (fun b hb e ht => ?_), bd1_s, if_neg (by decide)]
  have : a = b := (nI_eq (by omega) (by omega)).mp e
  subst this
  exact h ((hG.2.2.2.2.1 a).mp ht).2
theorem isRemM {t : HS} {B a r : Nat} (hL : Lay t B) (hs : ivSc t) (h1 : a < 1536) (h2 : t.1 6 a = 1) (hr : t.1 9 a = nI r) (hr2 : r ≤ 256) : ((t.1 7 a = 1 ∧ rem t a r) → pX5_isRemembered t (nI a) = some 1) ∧ (¬ (t.1 7 a = 1 ∧ rem t a r) → pX5_isRemembered t (nI a) = some 0) := by
  obtain ⟨r', n, a1, a2, a3, a4, a5⟩ := hL.2.2.2.2.1 a h1 h2
  have er : r' = r := (nI_eq (by omega) (by omega)).mp (a1.symm.trans hr)
  subst er
  have hend := end_le hL.1 h1 a5 a4 a3
  obtain ⟨s1, s2, s3, ⟨q, hq, s4⟩, s5⟩ := hs
  unfold pX5_isRemembered
  rw [ldA_n h1 (by omega)]
  rcases (hL.2.2.1 a h1).2 with hold | hold
  · rw [hold, if_pos rfl]
    exact ⟨fun h => absurd h.1 (by decide), fun _ => rfl⟩
  rw [hold, if_neg (by decide)]
  rcases s1 with s1 | s1
  · rw [s1, if_pos rfl]
    rcases s2 with s2 | s2
    · rw [s2, if_pos rfl]
      by_cases hin : ∃ k, k < q ∧ t.1 13 k = nI a
      · rw [inLogM_t s4 hq hin, bd1_s, if_neg (by decide)]
        refine ⟨fun _ => rfl, fun h => absurd ⟨rfl, Or.inl ⟨s1, Or.inr ?_⟩⟩ h⟩
        obtain ⟨k, k1, k2⟩ := hin
        exact ⟨k, q, s4, hq, k1, k2⟩
      · have hf : ∀ k, k < q → ¬ t.1 13 k = nI a := fun k k1 k2 => hin ⟨k, k1, k2⟩
        rw [inLogM_f s4 hq hf, bd1_s, if_pos rfl]
        refine ⟨fun h => ?_, fun _ => rfl⟩
        rcases h.2 with ⟨-, e | ⟨k, m, e1, e2, e3, e4⟩⟩ | ⟨e, -⟩
        · rw [s2] at e; exact absurd e (by decide)
        · have hm : m = q := (nI_eq (by omega) (by omega)).mp (e1.symm.trans s4)
          subst hm
          exact absurd ⟨k, e3, e4⟩ hin
        · rw [s1] at e; exact absurd e (by decide)
    · rw [s2, if_neg (by decide)]
      exact ⟨fun _ => rfl, fun h => absurd ⟨rfl, Or.inl ⟨s1, Or.inl s2⟩⟩ h⟩
  · rw [s1, if_neg (by decide)]
    have hT := touchM_loop (t := t) (a := a) (r := r') h1 (by omega) a1 (fun b hb => (hL.2.2.2.1 b hb).1) r' 0 FU (by omega) (FU_ge (by omega))
    by_cases hd : ∃ k, k < r' ∧ t.1 3 ((a + k) / 64) = 1
    · obtain ⟨k, k1, k2⟩ := hd
      exact ⟨fun _ => hT.2.1 ⟨k, by omega, k1, k2⟩, fun h => absurd ⟨rfl, Or.inr ⟨s1, k, k1, k2⟩⟩ h⟩
    · refine ⟨fun h => ?_, fun _ => hT.2.2 (fun k _ k1 k2 => hd ⟨k, k1, k2⟩)⟩
      rcases h.2 with ⟨e, -⟩ | ⟨-, e⟩
      · rw [s1] at e; exact absurd e (by decide)
      · exact absurd e hd
theorem wordsFor_n {s : Nat} (hs : s ≤ 256) : pX4_wordsFor (nI s) = some (if kcl s = 5 then nI ((s + 63) / 64 * 64) else nI (2 ^ (kcl s + 1))) := by
  unfold pX4_wordsFor
  have hk := kcl_le s
  rw [classFor_n hs, bd1_s, l5]
  by_cases h : kcl s = 5
  · rw [h, if_pos rfl, if_pos rfl, blocksFor_n hs, l64, pk_mul]
  · rw [if_neg (by rw [nI_eq (by omega) (by omega)]; exact h), if_neg h, (cellWords_n (k := kcl s) (by omega)).1]
theorem op_about {c t : HS} (h : RR c t) (x w : Int32) : ∃ r, pX4_about c x w = some r ∧ pX5_about t x w = some r := by
  obtain ⟨B, hS, hI⟩ := h
  have hw := hS.1
  have hM := hI.1.1
  unfold pX4_about pX5_about
  rcases th_or hS hI x with ⟨a, h1, rfl, h3, h4, h5⟩ | ⟨h1, h2⟩
  case inr =>
    rw [isThing_f hw h1, isThingM_f hM h2]
    exact ⟨_, rfl, rfl⟩
  obtain ⟨r, n, a1, a2, a3, a4, a5, a6, a7⟩ := th_rn hS hI h3
  have hev := th_even a5
  have hk := kcl_le (r + n)
  have n10 : ¬ (1 : Int32) = 0 := by decide
  rw [isThing_t hw h3, isThingM_t hM h5 (by rw [h4]; decide), bd1_s, bd1_s, if_neg n10, if_neg n10, sizeM h1 a1 a2, bd1_s, classOf_n a4, bd1_s]
  by_cases w0 : w = 0
  · rw [if_pos w0, if_pos w0, referencesOf_t hw h3, bd1_s, ldA_n h1 (by omega), a6, a1]
    exact ⟨_, rfl, rfl⟩
  rw [if_neg w0, if_neg w0]
  by_cases w1 : w = 1
  · rw [if_pos w1, if_pos w1, numbersOf_t hw h3, bd1_s, ldA_n h1 (by omega), a7, a2]
    exact ⟨_, rfl, rfl⟩
  rw [if_neg w1, if_neg w1]
  by_cases w2 : w = 2
  · rw [if_pos w2, if_pos w2, ageOf_t hw h3, bd1_s, ldA_n h1 (by omega)]
    rcases age_old hS.2.1 h1 hev h4 with ⟨g1, g2⟩ | ⟨g1, g2⟩
    · rw [g1, g2, if_pos rfl, if_neg (by decide)]
      exact ⟨_, rfl, rfl⟩
    · rw [g1, g2, if_neg (by decide), if_pos rfl]
      exact ⟨_, rfl, rfl⟩
  rw [if_neg w2, if_neg w2]
  by_cases w3 : w = 3
  · rw [if_pos w3, if_pos w3]
    have ho : c.1 7 (a / 2) = 3 ↔ t.1 7 a = 1 := by
      rcases age_old hS.2.1 h1 hev h4 with ⟨g1, g2⟩ | ⟨g1, g2⟩
      · rw [g1, g2]; decide
      · rw [g1, g2]; decide
    have hc := countsC (geo_of hS hI) (rm_of hS hI) h1 h4 a1 (by omega) ho
    have hm := isRemM hI.1 hI.2.2.2.2 h1 h4 a1 (by omega)
    by_cases hr : t.1 7 a = 1 ∧ rem t a r
    · rw [hc.1 hr, hm.1 hr, bd1_s, bd1_s, if_neg (by decide)]
      exact ⟨_, rfl, rfl⟩
    · rw [hc.2 hr, hm.2 hr, bd1_s, bd1_s, if_pos rfl]
      exact ⟨_, rfl, rfl⟩
  rw [if_neg w3, if_neg w3]
  by_cases w4 : w = 4
  · rw [if_pos w4, if_pos w4, sizeOf_t hw h3 a6 a7, bd1_s, wordsFor_n a4, bd1_s, l5]
    by_cases h : kcl (r + n) = 5
    · rw [if_pos h, h, if_pos rfl, blocksOfM h1 a1 a2 a4, bd1_s, l64, pk_mul, Nat.mul_comm]
      exact ⟨_, rfl, rfl⟩
    · rw [if_neg h, if_neg (by rw [nI_eq (by omega) (by omega)]; exact h), (cellWords_n (k := kcl (r + n)) (by omega)).2]
      exact ⟨_, rfl, rfl⟩
  rw [if_neg w4, if_neg w4]
  by_cases w5 : w = 5
  · rw [if_pos w5, if_pos w5, sizeOf_t hw h3 a6 a7, bd1_s, classFor_n a4, bd1_s]
    exact ⟨_, rfl, rfl⟩
  rw [if_neg w5, if_neg w5]
  exact ⟨_, rfl, rfl⟩
