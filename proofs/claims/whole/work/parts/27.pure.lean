theorem mk_bits : ∀ j, j < 6 → ∀ i, i < 32 → (-(nI (2 ^ j))).toBitVec.getLsbD i = decide (j ≤ i) := by decide +kernel
theorem mask_n {w j : Nat} (hj : j < 6) : nI w &&& (-(nI (2 ^ j))) = nI (w / 2 ^ j * 2 ^ j) := by
  apply Int32.toBitVec_inj.mp
  apply BitVec.eq_of_getLsbD_eq
  intro i hi
  rw [Int32.toBitVec_and, BitVec.getLsbD_and, mk_bits j hj i hi]
  show ((BitVec.ofNat 32 w).getLsbD i && decide (j ≤ i)) = (BitVec.ofNat 32 (w / 2 ^ j * 2 ^ j)).getLsbD i
  rw [BitVec.getLsbD_ofNat, BitVec.getLsbD_ofNat, ← Nat.shiftRight_eq_div_pow, ← Nat.shiftLeft_eq, Nat.testBit_shiftLeft, Nat.testBit_shiftRight]
  by_cases h : j ≤ i
  · simp [hi, h]
  · simp [hi, h]
theorem sub_mod (w m : Nat) : w - w % m = w / m * m := by
  have h := Nat.div_add_mod w m
  rw [Nat.mul_comm] at h
  omega
def Geo (c t : HS) (B : Nat) : Prop := CW c B ∧ Lay t B ∧ (∀ b, b < 24 → c.1 1 b = t.1 1 b) ∧ (∀ b, b < 24 → t.1 1 b = 1 → c.1 2 b = t.1 2 b) ∧ (∀ a, tb c B a ↔ (a < 1536 ∧ t.1 6 a = 1)) ∧ smRN c t ∧ smWd c t
theorem geo_of {c t : HS} {B : Nat} (hS : Sim c t B) (hI : Inv t B) : Geo c t B := ⟨hS.1, hI.1, fun b hb => (hS.2.2.2.1 b hb).1, fun b hb h => (hS.2.2.2.2.1 b hb).1 h, fun a => tb_tm hS hI, hS.2.2.1, hS.2.2.2.2.2.1⟩
theorem geo_rn {c t : HS} {B a : Nat} (hG : Geo c t B) (h1 : a < 1536) (h2 : t.1 6 a = 1) : ∃ r n, t.1 9 a = nI r ∧ t.1 10 a = nI n ∧ 1 ≤ r + n ∧ r + n ≤ 256 ∧ inCell t B a r n ∧ c.1 5 (a / 2) = nI r ∧ c.1 6 (a / 2) = nI n ∧ a % 2 = 0 ∧ tb c B a ∧ a < 64 * B := by
  obtain ⟨g1, g2, g3, g4, g5, g6, g7⟩ := hG
  obtain ⟨r, n, a1, a2, a3, a4, a5⟩ := g2.2.2.2.2.1 a h1 h2
  have he := th_even a5
  have ha : 2 * (a / 2) = a := by omega
  have hrn := g6 (a / 2) (by omega)
  rw [ha] at hrn
  exact ⟨r, n, a1, a2, a3, a4, a5, hrn.1.trans a1, hrn.2.trans a2, he, (g5 a).mpr ⟨h1, h2⟩, th_lt g2 h1 h2⟩
theorem geo_f {c t : HS} {B : Nat} (hG : Geo c t B) {a : Nat} (ha : a < 1536) (h : ¬ t.1 6 a = 1) : pX3_isThing c (nI a) = some 0 := by
  refine isThing_f hG.1 (fun b hb e ht => ?_)
  have : a = b := (nI_eq (by omega) (by omega)).mp e
  subst this
  exact h ((hG.2.2.2.2.1 a).mp ht).2
theorem beg01 {t : HS} {B a : Nat} (hL : Lay t B) (ha : a < 1536) : t.1 6 a = 0 ∨ t.1 6 a = 1 := (hL.2.2.1 a ha).1
theorem firstC {c : HS} {f : Nat} : ∀ b g, f ≤ b → b < 24 → b < g → (∀ k, f < k → k ≤ b → c.1 1 k = 3) → (0 < f → ¬ c.1 1 f = 3) → pX3_firstBlock_2 c g (nI b) = some (nI f) := by
  intro b
  induction b with
  | zero =>
    intro g h1 h2 h3 h4 h5
    obtain ⟨g, rfl⟩ : ∃ q, g = q + 1 := ⟨g - 1, by omega⟩
    unfold pX3_firstBlock_2
    rw [if_pos (by decide), show f = 0 by omega]
    rfl
  | succ b ih =>
    intro g h1 h2 h3 h4 h5
    obtain ⟨g, rfl⟩ : ∃ q, g = q + 1 := ⟨g - 1, by omega⟩
    unfold pX3_firstBlock_2
    rw [if_neg (nI_nle (by omega) (by omega)), ldA_n (by omega) (by omega)]
    by_cases hf : f = b + 1
    · subst hf
      rw [if_neg (h5 (by omega))]
    · rw [if_pos (h4 (b + 1) (by omega) (Nat.le_refl _)), pk_m1]
      exact ih g (by omega) (by omega) (by omega) (fun k k1 k2 => h4 k k1 (by omega)) h5
theorem firstM {t : HS} {f : Nat} (hf : ¬ t.1 1 f = 3) : ∀ b g, f ≤ b → b < 24 → b < g → (∀ k, f < k → k ≤ b → t.1 1 k = 3) → pX5_points_74 t g (nI b) = some (nI (64 * f)) := by
  intro b
  induction b with
  | zero =>
    intro g h1 h2 h3 h4
    obtain ⟨g, rfl⟩ : ∃ q, g = q + 1 := ⟨g - 1, by omega⟩
    have h0 : f = 0 := by omega
    subst h0
    unfold pX5_points_74
    rw [ldA_n (by omega) (by omega), if_neg hf, l64, pk_mul]
  | succ b ih =>
    intro g h1 h2 h3 h4
    obtain ⟨g, rfl⟩ : ∃ q, g = q + 1 := ⟨g - 1, by omega⟩
    unfold pX5_points_74
    rw [ldA_n (by omega) (by omega)]
    by_cases he : f = b + 1
    · subst he
      rw [if_neg hf, l64, pk_mul]
    · rw [if_pos (h4 (b + 1) (by omega) (Nat.le_refl _)), pk_m1]
      exact ih g (by omega) (by omega) (by omega) (fun k k1 k2 => h4 k k1 (by omega))
theorem large_of {t : HS} {B f : Nat} (hL : Lay t B) (hf : f < 24) (h : t.1 1 f = 2) : ∃ r n, t.1 9 (64 * f) = nI r ∧ t.1 10 (64 * f) = nI n ∧ 32 < r + n ∧ r + n ≤ 256 ∧ f + (r + n + 63) / 64 ≤ B ∧ ∀ k, f < k → k < f + (r + n + 63) / 64 → t.1 1 k = 3 := by
  obtain ⟨hM, hs, -, -, hT, -, hlg, -⟩ := hL
  obtain ⟨r, n, a1, a2, a3, a4, a5⟩ := hT (64 * f) (by omega) (hlg f hf h)
  have e : 64 * f / 64 = f := by omega
  rcases a5 with ⟨b1, -⟩ | ⟨b1, b2, b3, b4, b5⟩
  · rw [e, h] at b1; exact absurd b1 (by decide)
  · rw [e] at b4 b5
    exact ⟨r, n, a1, a2, b3, a4, b4, b5⟩
theorem behind_of {t : HS} {B b : Nat} (hL : Lay t B) (hb : b < 24) (h : t.1 1 b = 3) : ∃ f r n, f < b ∧ t.1 1 f = 2 ∧ t.1 9 (64 * f) = nI r ∧ t.1 10 (64 * f) = nI n ∧ r + n ≤ 256 ∧ b < f + (r + n + 63) / 64 ∧ f + (r + n + 63) / 64 ≤ B ∧ ∀ k, f < k → k < f + (r + n + 63) / 64 → t.1 1 k = 3 := by
  obtain ⟨f, r, n, h1, h2, h3, h4, h5, h6⟩ := hL.2.2.2.2.2.2.2 b hb h
  obtain ⟨r', n', g1, g2, g3, g4, g5, g6⟩ := large_of hL (by omega) h2
  have er : r' = r := (nI_eq (by omega) (by omega)).mp (g1.symm.trans h3)
  have en : n' = n := (nI_eq (by omega) (by omega)).mp (g2.symm.trans h4)
  subst er; subst en
  exact ⟨f, r', n', h1, h2, h3, h4, h5, h6, g5, g6⟩
theorem nobeg {t : HS} {B a : Nat} (hL : Lay t B) (ha : a < 1536) (h : t.1 1 (a / 64) = 0 ∨ t.1 1 (a / 64) = 3) : t.1 6 a = 0 := by
  rcases beg01 hL ha with h0 | h0
  · exact h0
  · obtain ⟨r, n, a1, a2, a3, a4, a5⟩ := hL.2.2.2.2.1 a ha h0
    rcases a5 with ⟨b1, -⟩ | ⟨b1, -⟩ <;> rw [b1] at h <;> exact absurd h (by decide)
theorem pts {c t : HS} {B : Nat} (hG : Geo c t B) (w : Int32) : ∃ z, pX3_thingAt c w = some z ∧ pX5_points t w = some z ∧ ptr t z := by
  have hG' := hG
  obtain ⟨hw, hL, g3, g4, g5, g6, g7⟩ := hG
  have hM := hL.1
  obtain ⟨w1, w2, w3, w4⟩ := id hw
  unfold pX3_thingAt pX5_points
  rw [w4, hM.2.2]
  by_cases hx : ∃ j, j < 64 * B ∧ w = nI j
  case neg =>
    have hx2 : ∀ j, j < 64 * B → ¬ w = nI j := fun j hj e => hx ⟨j, hj, e⟩
    rw [l64, pk_mul, inz_f (by omega) hx2, if_pos rfl]
    refine ⟨-1, ?_, rfl, Or.inl rfl⟩
    rcases pk_ix w (n := 64 * B) (by omega) with g | g | ⟨j, g1, g2⟩
    · rw [if_pos g]
    · by_cases g0 : w < 0
      · rw [if_pos g0]
      · rw [if_neg g0, if_neg (Int32.not_lt.mpr g)]
    · exact absurd g2 (hx2 j g1)
  obtain ⟨j, hj, rfl⟩ := hx
  have hb : j / 64 < 24 := by omega
  rw [if_neg (nI_pos (by omega)), if_pos (nI_lt hj (by omega)), l64, pk_mul, inz_t hj (by omega), if_neg (by decide), pk_div (by omega) (by omega) (by omega), ldA_n hb (by omega), ldA_n hb (by omega), ldA_n hb (by omega), ldA_n hb (by omega), g3 _ hb]
  rcases (hL.2.1 (j / 64) hb).1 with hs | hs | hs | hs
  · -- free
    rw [hs, if_neg (by decide), if_pos rfl]
    have hfb : pX3_firstBlock c (nI (j / 64)) = some (nI (j / 64)) := firstC (f := j / 64) (j / 64) FU (Nat.le_refl _) hb (FU_ge (by omega)) (fun k k1 k2 => by omega) (fun _ => by rw [g3 _ hb, hs]; decide)
    rw [hfb, bd1_s]
    unfold pX3_thingAt_52
    rw [pk_mul, geo_f hG' (by omega) (by rw [nobeg hL (by omega) (Or.inl (by rw [show j / 64 * 64 / 64 = j / 64 by omega]; exact hs))]; decide), bd1_s, if_pos rfl]
    exact ⟨_, rfl, rfl, Or.inl rfl⟩
  · -- small
    obtain ⟨k, hk, ek⟩ := hL.2.2.2.2.2.1 (j / 64) hb hs
    have hp := pow_le32 hk
    rw [hs, if_pos rfl, if_neg (by decide), if_pos rfl, g4 _ hb hs, ek, (cellWords_n hk).1, ldA_n hb (by omega), ek, (cellWords_n hk).2, mask_n (by omega), gdN_s (nI_ne0 (by omega) (by omega)), pk_rem (by omega) (by omega) (by omega), pk_sub (Nat.mod_le _ _), sub_mod]
    have hle : j / 2 ^ (k + 1) * 2 ^ (k + 1) ≤ j := Nat.div_mul_le_self _ _
    rw [ldA_n (by omega) (by omega)]
    unfold pX3_thingAt_52
    rcases beg01 hL (a := j / 2 ^ (k + 1) * 2 ^ (k + 1)) (by omega) with h0 | h0
    · rw [h0, if_pos rfl, geo_f hG' (by omega) (by rw [h0]; decide), bd1_s, if_pos rfl]
      exact ⟨_, rfl, rfl, Or.inl rfl⟩
    · rw [h0, if_neg (by decide), isThing_t hw ((g5 _).mpr ⟨by omega, h0⟩), bd1_s, if_neg (by decide)]
      exact ⟨_, rfl, rfl, Or.inr ⟨_, by omega, rfl, h0⟩⟩
  · -- the first of a large thing
    rw [hs, if_neg (by decide), if_neg (by decide), if_neg (by decide)]
    have hfb : pX3_firstBlock c (nI (j / 64)) = some (nI (j / 64)) := firstC (f := j / 64) (j / 64) FU (Nat.le_refl _) hb (FU_ge (by omega)) (fun k k1 k2 => by omega) (fun _ => by rw [g3 _ hb, hs]; decide)
    have h0 := hL.2.2.2.2.2.2.1 (j / 64) hb hs
    rw [hfb, bd1_s, firstM (f := j / 64) (by rw [hs]; decide) (j / 64) FU (Nat.le_refl _) hb (FU_ge (by omega)) (fun k k1 k2 => by omega)]
    unfold pX3_thingAt_52
    rw [pk_mul, Nat.mul_comm (j / 64) 64, isThing_t hw ((g5 _).mpr ⟨by omega, h0⟩), bd1_s, if_neg (by decide)]
    exact ⟨_, rfl, rfl, Or.inr ⟨_, by omega, rfl, h0⟩⟩
  · -- behind it
    rw [hs, if_neg (by decide), if_neg (by decide), if_neg (by decide)]
    obtain ⟨f, r, n, f1, f2, f3, f4, f5, f6, f7, f8⟩ := behind_of hL hb hs
    have hfb : pX3_firstBlock c (nI (j / 64)) = some (nI f) := firstC (f := f) (j / 64) FU (by omega) hb (FU_ge (by omega)) (fun k k1 k2 => by rw [g3 k (by omega)]; exact f8 k k1 (by omega)) (fun _ => by rw [g3 f (by omega), f2]; decide)
    have h0 := hL.2.2.2.2.2.2.1 f (by omega) f2
    rw [hfb, bd1_s, firstM (f := f) (by rw [f2]; decide) (j / 64) FU (by omega) hb (FU_ge (by omega)) (fun k k1 k2 => f8 k k1 (by omega))]
    unfold pX3_thingAt_52
    rw [pk_mul, Nat.mul_comm f 64, isThing_t hw ((g5 _).mpr ⟨by omega, h0⟩), bd1_s, if_neg (by decide)]
    exact ⟨_, rfl, rfl, Or.inr ⟨_, by omega, rfl, h0⟩⟩
theorem op_points {c t : HS} (h : RR c t) (w : Int32) : ∃ r, pX4_points c w = some r ∧ pX5_points t w = some r := by
  obtain ⟨B, hS, hI⟩ := h
  obtain ⟨z, h1, h2, -⟩ := pts (geo_of hS hI) w
  unfold pX4_points
  rw [h1, bd1_s]
  exact ⟨z, rfl, h2⟩
