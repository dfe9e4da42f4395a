def szOf (r n : Nat) : Nat := (r + n + 63) / 64
def ivSort (t : HS) (B : Nat) : Prop := ∀ b, b < 24 → (t.1 1 b = 0 ∨ t.1 1 b = 1 ∨ t.1 1 b = 2 ∨ t.1 1 b = 3) ∧ (B ≤ b → t.1 1 b = 0) ∧ (B ≤ b → t.1 3 b = 0)
def ivBeg (t : HS) : Prop := ∀ a, a < 1536 → (t.1 6 a = 0 ∨ t.1 6 a = 1) ∧ (t.1 7 a = 0 ∨ t.1 7 a = 1)
def ivBlk (t : HS) : Prop := ∀ b, b < 24 → (t.1 3 b = 0 ∨ t.1 3 b = 1) ∧ (t.1 4 b = 0 ∨ t.1 4 b = 1)
def inCell (t : HS) (B a r n : Nat) : Prop := (t.1 1 (a / 64) = 1 ∧ ∃ k, k ≤ 4 ∧ t.1 2 (a / 64) = nI k ∧ a % 2 ^ (k + 1) = 0 ∧ r + n ≤ 2 ^ (k + 1)) ∨ (t.1 1 (a / 64) = 2 ∧ a % 64 = 0 ∧ 32 < r + n ∧ a / 64 + (r + n + 63) / 64 ≤ B ∧ ∀ k, a / 64 < k → k < a / 64 + (r + n + 63) / 64 → t.1 1 k = 3)
def ivTh (t : HS) (B : Nat) : Prop := ∀ a, a < 1536 → t.1 6 a = 1 → ∃ r n : Nat, t.1 9 a = nI r ∧ t.1 10 a = nI n ∧ 1 ≤ r + n ∧ r + n ≤ 256 ∧ inCell t B a r n
def ivSm (t : HS) : Prop := ∀ b, b < 24 → t.1 1 b = 1 → ∃ k, k ≤ 4 ∧ t.1 2 b = nI k
def ivLg (t : HS) : Prop := ∀ b, b < 24 → t.1 1 b = 2 → t.1 6 (64 * b) = 1
def ivBh (t : HS) : Prop := ∀ b, b < 24 → t.1 1 b = 3 → ∃ f r n : Nat, f < b ∧ t.1 1 f = 2 ∧ t.1 9 (64 * f) = nI r ∧ t.1 10 (64 * f) = nI n ∧ r + n ≤ 256 ∧ b < f + (r + n + 63) / 64
def ptr (t : HS) (x : Int32) : Prop := x = -1 ∨ ∃ y, y < 1536 ∧ x = nI y ∧ t.1 6 y = 1
def ivRef (t : HS) : Prop := ∀ a r i, a < 1536 → t.1 6 a = 1 → t.1 9 a = nI r → r ≤ 256 → i < r → ptr t (t.1 5 (a + i))
def ivRoot (t : HS) : Prop := ∀ i, i < 10 → ptr t (t.1 11 i)
def inLg (t : HS) (a : Nat) : Prop := ∃ k n, t.1 0 2 = nI n ∧ n ≤ 12 ∧ k < n ∧ t.1 13 k = nI a
def dirtyIn (t : HS) (a r : Nat) : Prop := ∃ j, j < r ∧ t.1 3 ((a + j) / 64) = 1
def rem (t : HS) (a r : Nat) : Prop := (t.1 0 5 = 0 ∧ (t.1 0 3 = 1 ∨ inLg t a)) ∨ (t.1 0 5 = 1 ∧ dirtyIn t a r)
def ivRem (t : HS) : Prop := ∀ a r i y, a < 1536 → t.1 6 a = 1 → t.1 7 a = 1 → t.1 9 a = nI r → r ≤ 256 → i < r → y < 1536 → t.1 5 (a + i) = nI y → t.1 6 y = 1 → t.1 7 y = 0 → rem t a r
def ivSc (t : HS) : Prop := (t.1 0 5 = 0 ∨ t.1 0 5 = 1) ∧ (t.1 0 3 = 0 ∨ t.1 0 3 = 1) ∧ (t.1 0 4 = 0 ∨ t.1 0 4 = 1) ∧ (∃ n, n ≤ 12 ∧ t.1 0 2 = nI n) ∧ (∃ n, n ≤ 24 ∧ t.1 0 1 = nI n)
def Lay (t : HS) (B : Nat) : Prop := MW t B ∧ ivSort t B ∧ ivBeg t ∧ ivBlk t ∧ ivTh t B ∧ ivSm t ∧ ivLg t ∧ ivBh t
def Inv (t : HS) (B : Nat) : Prop := Lay t B ∧ ivRef t ∧ ivRoot t ∧ ivRem t ∧ ivSc t
def smAge (c t : HS) : Prop := ∀ k, k < 768 → (c.1 7 k = 0 ∧ t.1 6 (2 * k) = 0) ∨ (c.1 7 k = 1 ∧ t.1 6 (2 * k) = 1 ∧ t.1 7 (2 * k) = 0) ∨ (c.1 7 k = 3 ∧ t.1 6 (2 * k) = 1 ∧ t.1 7 (2 * k) = 1)
def smRN (c t : HS) : Prop := ∀ k, k < 768 → c.1 5 k = t.1 9 (2 * k) ∧ c.1 6 k = t.1 10 (2 * k)
def smBlk (c t : HS) : Prop := ∀ b, b < 24 → c.1 1 b = t.1 1 b ∧ c.1 3 b = t.1 4 b ∧ c.1 9 b = t.1 3 b
def smDet (c t : HS) : Prop := ∀ b, b < 24 → (t.1 1 b = 1 → c.1 2 b = t.1 2 b) ∧ (t.1 1 b = 2 → ∃ r n, t.1 9 (64 * b) = nI r ∧ t.1 10 (64 * b) = nI n ∧ r + n ≤ 256 ∧ c.1 2 b = nI ((r + n + 63) / 64)) ∧ (t.1 1 b = 0 ∨ t.1 1 b = 3 → c.1 2 b = 0)
def smWd (c t : HS) : Prop := ∀ a, a < 1536 → c.1 4 a = t.1 5 a
def smRt (c t : HS) : Prop := ∀ i, i < 10 → c.1 10 i = t.1 11 i
def smSt (c t : HS) : Prop := ∀ i, i < 24 → c.1 11 i = t.1 12 i
def smLog (c t : HS) : Prop := ∀ i, i < 12 → c.1 8 i = t.1 13 i
def smSc (c t : HS) : Prop := c.1 0 2 = t.1 0 5 ∧ c.1 0 3 = t.1 0 2 ∧ c.1 0 4 = t.1 0 3 ∧ c.1 0 5 = t.1 0 1 ∧ c.1 0 7 = t.1 0 8 ∧ c.1 0 8 = t.1 0 9 ∧ c.1 0 9 = t.1 0 10 ∧ c.1 0 10 = t.1 0 11 ∧ c.1 0 11 = t.1 0 4 ∧ c.1 0 12 = t.1 0 6 ∧ c.1 0 13 = t.1 0 7
def Sim (c t : HS) (B : Nat) : Prop := CW c B ∧ smAge c t ∧ smRN c t ∧ smBlk c t ∧ smDet c t ∧ smWd c t ∧ smRt c t ∧ smSt c t ∧ smLog c t ∧ smSc c t
def RR (c t : HS) : Prop := ∃ B, Sim c t B ∧ Inv t B
theorem pow5 {k : Nat} (h : k ≤ 4) : (k = 0 ∧ 2 ^ (k + 1) = 2) ∨ (k = 1 ∧ 2 ^ (k + 1) = 4) ∨ (k = 2 ∧ 2 ^ (k + 1) = 8) ∨ (k = 3 ∧ 2 ^ (k + 1) = 16) ∨ (k = 4 ∧ 2 ^ (k + 1) = 32) := by
  rcases (show k = 0 ∨ k = 1 ∨ k = 2 ∨ k = 3 ∨ k = 4 by omega) with rfl | rfl | rfl | rfl | rfl <;> simp
theorem th_even {t : HS} {B a r n : Nat} (h : inCell t B a r n) : a % 2 = 0 := by
  rcases h with ⟨-, k, hk, -, h1, -⟩ | ⟨-, h1, -⟩
  · rcases pow5 hk with ⟨-, e⟩ | ⟨-, e⟩ | ⟨-, e⟩ | ⟨-, e⟩ | ⟨-, e⟩ <;> rw [e] at h1 <;> omega
  · omega
theorem th_lt {t : HS} {B a : Nat} (hL : Lay t B) (ha : a < 1536) (h : t.1 6 a = 1) : a < 64 * B := by
  obtain ⟨hM, hs, -, -, hT, -⟩ := hL
  obtain ⟨r, n, -, -, -, -, hc⟩ := hT a ha h
  have hb := (hs (a / 64) (by omega)).2.1
  by_cases h1 : B ≤ a / 64
  · have h0 := hb h1
    rcases hc with ⟨h2, -⟩ | ⟨h2, -⟩ <;> rw [h0] at h2 <;> exact absurd h2 (by decide)
  · omega
theorem tb_tm {c t : HS} {B a : Nat} (hS : Sim c t B) (hI : Inv t B) : tb c B a ↔ (a < 1536 ∧ t.1 6 a = 1) := by
  obtain ⟨hw, hag, -⟩ := hS
  have hB := hw.2.1
  constructor
  · rintro ⟨h1, h2, h3⟩
    have ha : 2 * (a / 2) = a := by omega
    refine ⟨by omega, ?_⟩
    rcases hag (a / 2) (by omega) with h | h | h
    · exact absurd h.1 h3
    · rw [← ha]; exact h.2.1
    · rw [← ha]; exact h.2.1
  · rintro ⟨h1, h2⟩
    have hlt := th_lt hI.1 h1 h2
    obtain ⟨r, n, -, -, -, -, hc⟩ := hI.1.2.2.2.2.1 a h1 h2
    have he := th_even hc
    have ha : 2 * (a / 2) = a := by omega
    refine ⟨hlt, he, fun h0 => ?_⟩
    rcases hag (a / 2) (by omega) with h | h | h
    · rw [ha, h2] at h; exact absurd h.2 (by decide)
    · rw [h0] at h; exact absurd h.1 (by decide)
    · rw [h0] at h; exact absurd h.1 (by decide)
theorem th_or {c t : HS} {B : Nat} (hS : Sim c t B) (hI : Inv t B) (x : Int32) : (∃ a, a < 1536 ∧ x = nI a ∧ tb c B a ∧ t.1 6 a = 1 ∧ a < 64 * B) ∨ ((∀ a, a < 1536 → x = nI a → ¬ tb c B a) ∧ ∀ a, a < 64 * B → x = nI a → t.1 6 a = 0) := by
  have hB := hS.1.2.1
  by_cases h : ∃ a, a < 1536 ∧ x = nI a ∧ t.1 6 a = 1
  · obtain ⟨a, h1, h2, h3⟩ := h
    exact Or.inl ⟨a, h1, h2, (tb_tm hS hI).mpr ⟨h1, h3⟩, h3, th_lt hI.1 h1 h3⟩
  · refine Or.inr ⟨fun a ha hx ht => h ⟨a, ha, hx, ((tb_tm hS hI).mp ht).2⟩, fun a ha hx => ?_⟩
    rcases (hI.1.2.2.1 a (by omega)).1 with h0 | h0
    · exact h0
    · exact absurd ⟨a, by omega, hx, h0⟩ h
theorem th_rn {c t : HS} {B a : Nat} (hS : Sim c t B) (hI : Inv t B) (ht : tb c B a) : ∃ r n, t.1 9 a = nI r ∧ t.1 10 a = nI n ∧ 1 ≤ r + n ∧ r + n ≤ 256 ∧ inCell t B a r n ∧ c.1 5 (a / 2) = nI r ∧ c.1 6 (a / 2) = nI n := by
  obtain ⟨h1, h2⟩ := (tb_tm hS hI).mp ht
  obtain ⟨r, n, a1, a2, a3, a4, a5⟩ := hI.1.2.2.2.2.1 a h1 h2
  have he := th_even a5
  have ha : 2 * (a / 2) = a := by omega
  have hrn := hS.2.2.1 (a / 2) (by omega)
  rw [ha] at hrn
  exact ⟨r, n, a1, a2, a3, a4, a5, hrn.1.trans a1, hrn.2.trans a2⟩
theorem th_in {t : HS} {B a r n i : Nat} (hM : MW t B) (ha : a < 1536) (h : inCell t B a r n) (hi : i < r + n) (h256 : r + n ≤ 256) : a + i < 1536 := by
  obtain ⟨-, hB, -⟩ := hM
  rcases h with ⟨-, k, hk, -, h1, h2⟩ | ⟨-, h1, h3, h2, -⟩
  · rcases pow5 hk with ⟨-, e⟩ | ⟨-, e⟩ | ⟨-, e⟩ | ⟨-, e⟩ | ⟨-, e⟩ <;> rw [e] at h1 h2 <;> omega
  · omega
theorem op_link {c t : HS} (h : RR c t) (x i : Int32) : ∃ r, pX4_link c x i = some r ∧ pX5_link t x i = some r := by
  obtain ⟨B, hS, hI⟩ := h
  have hw := hS.1
  have hM := hI.1.1
  unfold pX4_link pX5_link
  rcases th_or hS hI x with ⟨a, h1, rfl, h3, h4, h5⟩ | ⟨h1, h2⟩
  · rw [isThing_t hw h3, isThingM_t hM h5 (by rw [h4]; decide), bd1_s, bd1_s, if_neg (by decide), if_neg (by decide)]
    obtain ⟨r, n, a1, a2, a3, a4, a5, a6, a7⟩ := th_rn hS hI h3
    rw [ldA_n h1 (by omega), a1]
    by_cases hx : ∃ j, j < r ∧ i = nI j
    · obtain ⟨j, hj, rfl⟩ := hx
      have hin := th_in hM h1 a5 (i := j) (by omega) a4
      rw [hasRef_t hw h3 a6 (by omega) hj, bd1_s, if_neg (by decide), inz_t hj (by omega), if_neg (by decide), nI_add, ldA_n hin (by omega), ldA_n hin (by omega)]
      exact ⟨_, rfl, by rw [hS.2.2.2.2.2.1 _ hin]⟩
    · rw [hasRef_f hw h3 a6 (by omega) (fun j hj e => hx ⟨j, hj, e⟩), bd1_s, if_pos rfl, inz_f (by omega) (fun j hj e => hx ⟨j, hj, e⟩), if_pos rfl]
      exact ⟨_, rfl, rfl⟩
  · rw [isThing_f hw h1, isThingM_f hM h2]
    exact ⟨_, rfl, rfl⟩
