theorem subadd {x y d : Int32} (h : x + 1 = y + d) : x - y + 1 = d := by grind
def opn (t : HS) (mi : Int32) (b : Nat) : Prop := t.1 1 b = 0 ∧ (mi = 0 ∨ t.1 4 b = 0)
def allO (t : HS) (mi : Int32) (s len : Nat) : Prop := ∀ k, s ≤ k → k < s + len → opn t mi k
def least (t : HS) (mi : Int32) (B len s : Nat) : Prop := s + len ≤ B ∧ allO t mi s len ∧ ∀ s', s' < s → ¬ allO t mi s' len
def noRow (t : HS) (mi : Int32) (B len : Nat) : Prop := ∀ s, s + len ≤ B → ¬ allO t mi s len
theorem least_uniq {t : HS} {mi : Int32} {B len s s' : Nat} (h : least t mi B len s) (h' : least t mi B len s') : s = s' := by
  by_cases e : s = s'
  · exact e
  · by_cases l : s < s'
    · exact absurd h.2.1 (h'.2.2 s l)
    · exact absurd h'.2.1 (h.2.2 s' (by omega))
theorem isOpenM {t : HS} {mi : Int32} {b : Nat} (hb : b < 24) : (opn t mi b → pX5_isOpen t (nI b) mi = some 1) ∧ (¬ opn t mi b → pX5_isOpen t (nI b) mi = some 0) := by
  unfold pX5_isOpen
  rw [ldA_n hb (by omega), ldA_n hb (by omega)]
  by_cases h1 : t.1 1 b = 0
  · rw [if_pos h1]
    by_cases h2 : mi = 0
    · rw [if_pos h2]
      exact ⟨fun _ => rfl, fun h => absurd ⟨h1, Or.inl h2⟩ h⟩
    · rw [if_neg h2]
      by_cases h3 : t.1 4 b = 0
      · rw [if_pos h3]
        exact ⟨fun _ => rfl, fun h => absurd ⟨h1, Or.inr h3⟩ h⟩
      · rw [if_neg h3]
        exact ⟨fun h => (h.2.elim h2 h3).elim, fun _ => rfl⟩
  · rw [if_neg h1]
    exact ⟨fun h => absurd h.1 h1, fun _ => rfl⟩
theorem FR {c t : HS} {B len : Nat} {mi : Int32} (hw : CW c B) (hS : ∀ b, b < 24 → c.1 1 b = t.1 1 b ∧ c.1 3 b = t.1 4 b) (h01 : ∀ b, b < 24 → t.1 4 b = 0 ∨ t.1 4 b = 1) (hl : 1 ≤ len) (hl2 : len ≤ 4) : ∀ m b f run, b + m = B → m < f → run < len → run ≤ b → (∀ k, b - run ≤ k → k < b → opn t mi k) → (∀ s, s + len ≤ b → ¬ allO t mi s len) → (run = b ∨ ¬ opn t mi (b - run - 1)) → (∃ s, least t mi B len s ∧ pX3_freeRow_5 c f (nI len) mi (nI run) (nI b) = some (nI (64 * s))) ∨ (noRow t mi B len ∧ pX3_freeRow_5 c f (nI len) mi (nI run) (nI b) = some (-1)) := by
  obtain ⟨w1, w2, w3, w4⟩ := hw
  intro m
  induction m with
  | zero =>
    intro b f run hb hf h1 h2 h3 h4 h5
    obtain ⟨f, rfl⟩ : ∃ g, f = g + 1 := ⟨f - 1, by omega⟩
    have e : b = B := by omega
    subst e
    unfold pX3_freeRow_5
    rw [w3, if_pos (nI_le (by omega) (by omega))]
    exact Or.inr ⟨h4, rfl⟩
  | succ m ih =>
    intro b f run hb hf h1 h2 h3 h4 h5
    obtain ⟨f, rfl⟩ : ∃ g, f = g + 1 := ⟨f - 1, by omega⟩
    have hb4 : b < 24 := by omega
    unfold pX3_freeRow_5
    rw [w3, if_neg (nI_ge (by omega) (by omega)), ldA_n hb4 (by omega), ldA_n hb4 (by omega), (hS b hb4).1, (hS b hb4).2]
    have opnd : opn t mi b → (∃ s, least t mi B len s ∧ pX3_freeRow_44 (pX3_freeRow_5 c f) c (nI len) mi (nI run) (nI b) 1 = some (nI (64 * s))) ∨ (noRow t mi B len ∧ pX3_freeRow_44 (pX3_freeRow_5 c f) c (nI len) mi (nI run) (nI b) 1 = some (-1)) := by
      intro ho
      unfold pX3_freeRow_44 pX3_freeRow_58
      rw [if_neg (by decide), nI_1]
      by_cases he : run + 1 = len
      · rw [he, if_pos rfl]
        left
        refine ⟨b + 1 - len, ⟨by omega, fun k k1 k2 => ?_, fun s' hs' => h4 s' (by omega)⟩, ?_⟩
        · by_cases hk : k = b
          · subst hk; exact ho
          · exact h3 k (by omega) (by omega)
        · have e1 : nI b - nI len + 1 = nI (b + 1 - len) := subadd (by rw [nI_1, nI_add, show len + (b + 1 - len) = b + 1 by omega])
          rw [e1, l64, pk_mul, Nat.mul_comm]
      · rw [if_neg (by rw [nI_eq (by omega) (by omega)]; exact he), nI_1]
        refine ih (b + 1) f (run + 1) (by omega) (by omega) (by omega) (by omega) (fun k k1 k2 => ?_) (fun s hs ha => ?_) ?_
        · by_cases hk : k = b
          · subst hk; exact ho
          · exact h3 k (by omega) (by omega)
        · by_cases hs2 : s + len ≤ b
          · exact h4 s hs2 ha
          · rcases h5 with h5 | h5
            · omega
            · exact h5 (ha (b - run - 1) (by omega) (by omega))
        · rcases h5 with h5 | h5
          · exact Or.inl (by omega)
          · right
            rw [show b + 1 - (run + 1) - 1 = b - run - 1 by omega]
            exact h5
    have clos : ¬ opn t mi b → (∃ s, least t mi B len s ∧ pX3_freeRow_44 (pX3_freeRow_5 c f) c (nI len) mi (nI run) (nI b) 0 = some (nI (64 * s))) ∨ (noRow t mi B len ∧ pX3_freeRow_44 (pX3_freeRow_5 c f) c (nI len) mi (nI run) (nI b) 0 = some (-1)) := by
      intro ho
      unfold pX3_freeRow_44 pX3_freeRow_58
      rw [if_pos rfl, if_neg (show ¬ (0 : Int32) = nI len from fun e => nI_ne0 (n := len) (by omega) (by omega) e.symm), nI_1]
      have := ih (b + 1) f 0 (by omega) (by omega) (by omega) (by omega) (fun k k1 k2 => by omega) (fun s hs ha => ?_) (Or.inr ?_)
      · rw [nI_0] at this
        exact this
      · by_cases hs2 : s + len ≤ b
        · exact h4 s hs2 ha
        · exact ho (ha b (by omega) (by omega))
      · rw [show b + 1 - 0 - 1 = b by omega]
        exact ho
    by_cases h1' : t.1 1 b = 0
    · rw [if_pos h1']
      by_cases hm : mi = 0
      · rw [if_pos hm]
        exact opnd ⟨h1', Or.inl hm⟩
      · rw [if_neg hm]
        rcases h01 b hb4 with e | e
        · rw [if_neg (by rw [e]; decide)]
          exact opnd ⟨h1', Or.inr e⟩
        · rw [if_pos e]
          exact clos (fun h => h.2.elim hm (fun q => by rw [e] at q; exact absurd q (by decide)))
    · rw [if_neg h1']
      exact clos (fun h => h1' h.1)
theorem freeRow_n {c t : HS} {B len : Nat} {mi : Int32} (hw : CW c B) (hS : ∀ b, b < 24 → c.1 1 b = t.1 1 b ∧ c.1 3 b = t.1 4 b) (h01 : ∀ b, b < 24 → t.1 4 b = 0 ∨ t.1 4 b = 1) (hl : 1 ≤ len) (hl2 : len ≤ 4) : (∃ s, least t mi B len s ∧ pX3_freeRow c (nI len) mi = some (nI (64 * s))) ∨ (noRow t mi B len ∧ pX3_freeRow c (nI len) mi = some (-1)) := by
  have hB := hw.2.1
  have := FR (mi := mi) hw hS h01 hl hl2 B 0 FU 0 (by omega) (FU_ge (by omega)) (by omega) (by omega) (fun k k1 k2 => by omega) (fun s hs => by omega) (Or.inl rfl)
  rw [nI_0] at this
  exact this
theorem L31 {t : HS} {b len : Nat} {mi : Int32} {K : HS → Int32 → Int32 → Int32 → Option (Int32 × HS)} (hb : b + len ≤ 24) : ∀ m j f, j + m = b + len → m < f → (pX5_large_31 K f t mi (nI len) (nI b) 0 (nI j) = K t mi (nI len) (nI (b + 1))) ∧ ((∀ k, j ≤ k → k < b + len → opn t mi k) → pX5_large_31 K f t mi (nI len) (nI b) 1 (nI j) = pX5_large_77 FU t (nI len) (nI b) (nI b)) ∧ (¬ (∀ k, j ≤ k → k < b + len → opn t mi k) → pX5_large_31 K f t mi (nI len) (nI b) 1 (nI j) = K t mi (nI len) (nI (b + 1))) := by
  intro m
  induction m with
  | zero =>
    intro j f hj hf
    obtain ⟨f, rfl⟩ : ∃ g, f = g + 1 := ⟨f - 1, by omega⟩
    unfold pX5_large_31
    have hle : nI (b + len) ≤ nI j := nI_le (by omega) (by omega)
    rw [nI_add, if_pos hle, if_pos hle, if_pos rfl, if_neg (by decide), nI_1]
    exact ⟨rfl, fun _ => rfl, fun h => absurd (fun k k1 k2 => by omega) h⟩
  | succ m ih =>
    intro j f hj hf
    obtain ⟨f, rfl⟩ : ∃ g, f = g + 1 := ⟨f - 1, by omega⟩
    have ih := ih (j + 1) f (by omega) (by omega)
    have hle : ¬ nI (b + len) ≤ nI j := nI_ge (by omega) (by omega)
    have ho := isOpenM (t := t) (mi := mi) (b := j) (by omega)
    unfold pX5_large_31
    rw [nI_add, if_neg hle, if_neg hle, if_pos rfl, if_neg (show ¬ (1 : Int32) = 0 by decide), nI_1]
    refine ⟨ih.1, fun h => ?_, fun h => ?_⟩
    · rw [ho.1 (h j (Nat.le_refl j) (by omega)), bd1_s, if_neg (by decide)]
      exact ih.2.1 (fun k k1 k2 => h k (by omega) k2)
    · by_cases hj2 : opn t mi j
      · rw [ho.1 hj2, bd1_s, if_neg (by decide)]
        refine ih.2.2 (fun g => h (fun k k1 k2 => ?_))
        by_cases hk : k = j
        · subst hk; exact hj2
        · exact g k (by omega) k2
      · rw [ho.2 hj2, bd1_s, if_pos rfl]
        exact ih.1
theorem L13 {t : HS} {B len : Nat} {mi : Int32} (hw : MW t B) (hl : 1 ≤ len) (hl2 : len ≤ 4) : ∀ m b f, b + m = B → m < f → (∀ s, s < b → ¬ allO t mi s len) → (∃ s, least t mi B len s ∧ pX5_large_13 f t mi (nI len) (nI b) = pX5_large_77 FU t (nI len) (nI s) (nI s)) ∨ (noRow t mi B len ∧ pX5_large_13 f t mi (nI len) (nI b) = some (-1, t)) := by
  obtain ⟨w1, w2, w3⟩ := hw
  intro m
  induction m with
  | zero =>
    intro b f hb hf h
    obtain ⟨f, rfl⟩ : ∃ g, f = g + 1 := ⟨f - 1, by omega⟩
    unfold pX5_large_13
    rw [w3, nI_add, if_pos (nI_lt (by omega) (by omega))]
    exact Or.inr ⟨fun s hs => h s (by omega), rfl⟩
  | succ m ih =>
    intro b f hb hf h
    obtain ⟨f, rfl⟩ : ∃ g, f = g + 1 := ⟨f - 1, by omega⟩
    unfold pX5_large_13
    rw [w3, nI_add]
    by_cases hlt : B < b + len
    · rw [if_pos (nI_lt hlt (by omega))]
      exact Or.inr ⟨fun s hs => h s (by omega), rfl⟩
    · rw [if_neg (nI_nlt (by omega) (by omega))]
      have h31 := L31 (t := t) (b := b) (len := len) (mi := mi) (K := pX5_large_13 f) (by omega) len b FU (by omega) (FU_ge (by omega))
      by_cases ha : allO t mi b len
      · rw [h31.2.1 ha]
        exact Or.inl ⟨b, ⟨by omega, ha, h⟩, rfl⟩
      · rw [h31.2.2 ha]
        refine ih (b + 1) f (by omega) (by omega) (fun s hs => ?_)
        by_cases e : s = b
        · subst e; exact ha
        · exact h s (by omega)
theorem S81 {t : HS} {B : Nat} {mi k : Int32} (hw : MW t B) : ∀ m b f, b + m = B → m < f → (∀ s, s < b → ¬ allO t mi s 1) → (∃ s, least t mi B 1 s ∧ pX5_small_81 f t k mi (nI b) = some (nI (64 * s), hs (hs (hs t 1 s 1) 2 s k) 4 s 0)) ∨ (noRow t mi B 1 ∧ pX5_small_81 f t k mi (nI b) = some (-1, t)) := by
  obtain ⟨w1, w2, w3⟩ := hw
  intro m
  induction m with
  | zero =>
    intro b f hb hf h
    obtain ⟨f, rfl⟩ : ∃ g, f = g + 1 := ⟨f - 1, by omega⟩
    unfold pX5_small_81
    rw [w3, if_pos (nI_le (by omega) (by omega))]
    exact Or.inr ⟨fun s hs => h s (by omega), rfl⟩
  | succ m ih =>
    intro b f hb hf h
    obtain ⟨f, rfl⟩ : ∃ g, f = g + 1 := ⟨f - 1, by omega⟩
    have ho := isOpenM (t := t) (mi := mi) (b := b) (by omega)
    unfold pX5_small_81
    rw [w3, if_neg (nI_ge (by omega) (by omega))]
    by_cases hob : opn t mi b
    · rw [ho.1 hob, bd1_s, if_neg (by decide), stA_n (by omega) (by omega), stA_n (by omega) (by omega), stZ_n (by omega) (by omega) (Or.inl rfl), l64, pk_mul]
      refine Or.inl ⟨b, ⟨by omega, fun k' k1 k2 => ?_, h⟩, rfl⟩
      have : k' = b := by omega
      subst this
      exact hob
    · rw [ho.2 hob, bd1_s, if_pos rfl, nI_1]
      refine ih (b + 1) f (by omega) (by omega) (fun s hs ha => ?_)
      by_cases e : s = b
      · subst e; exact hob (ha s (Nat.le_refl s) (by omega))
      · exact h s (by omega) ha
def freeAt (t : HS) (B k a : Nat) : Prop := a < 64 * B ∧ t.1 1 (a / 64) = 1 ∧ t.1 2 (a / 64) = nI k ∧ a % 2 ^ (k + 1) = 0 ∧ t.1 6 a = 0
theorem FC35 {c t : HS} {B b k : Nat} {mi : Int32} {K : Int32 → Int32 → Option Int32} {K' : HS → Int32 → Int32 → Int32 → Option (Int32 × HS)} (hG : Geo c t B) (hb : b < B) (hk : k ≤ 4) (h1 : t.1 1 b = 1) (h2 : t.1 2 b = nI k) : ∀ m j f f', j + m = 64 / 2 ^ (k + 1) → m < f → m < f' → (∃ a, freeAt t B k a ∧ pX3_freeCell_35 K c f (nI k) (nI b) (nI j) = some (nI a) ∧ pX5_small_16 K' f' t (nI k) mi (nI b) (nI (64 * b + j * 2 ^ (k + 1))) = some (nI a, t)) ∨ (pX3_freeCell_35 K c f (nI k) (nI b) (nI j) = K (nI k) (nI (b + 1)) ∧ pX5_small_16 K' f' t (nI k) mi (nI b) (nI (64 * b + j * 2 ^ (k + 1))) = K' t (nI k) mi (nI (b + 1))) := by
  have hL := hG.2.1
  have hB := hL.1.2.1
  have hp := pow_le32 hk
  have hdiv : 64 / 2 ^ (k + 1) * 2 ^ (k + 1) = 64 := by
    rcases pow5 hk with ⟨-, e⟩ | ⟨-, e⟩ | ⟨-, e⟩ | ⟨-, e⟩ | ⟨-, e⟩ <;> rw [e]
  have hle : 64 / 2 ^ (k + 1) ≤ 32 := by
    rcases pow5 hk with ⟨-, e⟩ | ⟨-, e⟩ | ⟨-, e⟩ | ⟨-, e⟩ | ⟨-, e⟩ <;> rw [e] <;> decide
  intro m
  induction m with
  | zero =>
    intro j f f' hj hf hf'
    obtain ⟨f, rfl⟩ : ∃ g, f = g + 1 := ⟨f - 1, by omega⟩
    obtain ⟨f', rfl⟩ : ∃ g, f' = g + 1 := ⟨f' - 1, by omega⟩
    have ej : j = 64 / 2 ^ (k + 1) := by omega
    right
    unfold pX3_freeCell_35 pX5_small_16
    rw [cellsOf_n hk, if_pos (nI_le (by omega) (by omega)), nI_1, ldA_n (by omega) (by omega), if_pos h1, ldA_n (by omega) (by omega), if_pos h2, l64, pk_mul, nI_add, ej, hdiv, if_pos (nI_le (Nat.le_refl _) (by omega))]
    exact ⟨rfl, rfl⟩
  | succ m ih =>
    intro j f f' hj hf hf'
    obtain ⟨f, rfl⟩ : ∃ g, f = g + 1 := ⟨f - 1, by omega⟩
    obtain ⟨f', rfl⟩ : ∃ g, f' = g + 1 := ⟨f' - 1, by omega⟩
    have hjm : j * 2 ^ (k + 1) + 2 ^ (k + 1) ≤ 64 := by
      have : (j + 1) * 2 ^ (k + 1) ≤ 64 / 2 ^ (k + 1) * 2 ^ (k + 1) := Nat.mul_le_mul_right _ (by omega)
      rw [hdiv, Nat.add_mul, Nat.one_mul] at this
      exact this
    have ih := ih (j + 1) f f' (by omega) (by omega) (by omega)
    rw [Nat.add_mul, Nat.one_mul, ← Nat.add_assoc] at ih
    unfold pX3_freeCell_35 pX5_small_16
    rw [cellsOf_n hk, if_neg (nI_ge (by omega) (by omega)), (cellWords_n hk).1, (cellWords_n hk).2, l64, pk_mul, pk_mul, pk_mul, nI_add, nI_add, nI_add, nI_1, ldA_n (by omega) (by omega), if_pos h1, ldA_n (by omega) (by omega), if_pos h2, if_neg (nI_ge (by omega) (by omega)), ldA_n (by omega) (by omega), Nat.mul_comm b 64]
    rcases beg01 hL (a := 64 * b + j * 2 ^ (k + 1)) (by omega) with h0 | h0
    · rw [geo_f hG (by omega) (by rw [h0]; decide), bd1_s, if_pos rfl, if_pos h0]
      left
      refine ⟨64 * b + j * 2 ^ (k + 1), ⟨by omega, ?_, ?_, ?_, h0⟩, rfl, rfl⟩
      · rw [show (64 * b + j * 2 ^ (k + 1)) / 64 = b by omega]; exact h1
      · rw [show (64 * b + j * 2 ^ (k + 1)) / 64 = b by omega]; exact h2
      · rw [Nat.add_mul_mod_self_right]
        rcases pow5 hk with ⟨-, e⟩ | ⟨-, e⟩ | ⟨-, e⟩ | ⟨-, e⟩ | ⟨-, e⟩ <;> rw [e] <;> omega
    · rw [isThing_t hG.1 ((hG.2.2.2.2.1 _).mpr ⟨by omega, h0⟩), bd1_s, if_neg (by decide), if_neg (by rw [h0]; decide)]
      exact ih
theorem FC2 {c t : HS} {B k : Nat} {mi : Int32} (hG : Geo c t B) (hk : k ≤ 4) : ∀ m b f f', b + m = B → m < f → m < f' → (∃ a, freeAt t B k a ∧ pX3_freeCell_2 c f (nI k) (nI b) = some (nI a) ∧ pX5_small_2 f' t (nI k) mi (nI b) = some (nI a, t)) ∨ (pX3_freeCell_2 c f (nI k) (nI b) = some (-1) ∧ pX5_small_2 f' t (nI k) mi (nI b) = pX5_small_81 FU t (nI k) mi 0) := by
  obtain ⟨w1, w2, w3, w4⟩ := hG.1
  have hL := hG.2.1
  intro m
  induction m with
  | zero =>
    intro b f f' hb hf hf'
    obtain ⟨f, rfl⟩ : ∃ g, f = g + 1 := ⟨f - 1, by omega⟩
    obtain ⟨f', rfl⟩ : ∃ g, f' = g + 1 := ⟨f' - 1, by omega⟩
    right
    unfold pX3_freeCell_2 pX5_small_2
    rw [w3, hL.1.2.2, if_pos (nI_le (by omega) (by omega)), if_pos (nI_le (by omega) (by omega))]
    exact ⟨rfl, rfl⟩
  | succ m ih =>
    intro b f f' hb hf hf'
    obtain ⟨f, rfl⟩ : ∃ g, f = g + 1 := ⟨f - 1, by omega⟩
    obtain ⟨f', rfl⟩ : ∃ g, f' = g + 1 := ⟨f' - 1, by omega⟩
    have hb4 : b < 24 := by omega
    have ih := ih (b + 1) f f' (by omega) (by omega) (by omega)
    unfold pX3_freeCell_2 pX5_small_2
    rw [w3, hL.1.2.2, if_neg (nI_ge (by omega) (by omega)), if_neg (nI_ge (by omega) (by omega)), ldA_n hb4 (by omega), ldA_n hb4 (by omega), hG.2.2.1 b hb4, l64, pk_mul, nI_1]
    have skip : ¬ (t.1 1 b = 1 ∧ t.1 2 b = nI k) → pX5_small_16 (pX5_small_2 f') FU t (nI k) mi (nI b) (nI (64 * b)) = pX5_small_2 f' t (nI k) mi (nI (b + 1)) := by
      intro hn
      have hf2 : FU = 99999 + 1 := rfl
      rw [hf2, pX5_small_16, ldA_n hb4 (by omega), ldA_n hb4 (by omega), nI_1]
      by_cases h1 : t.1 1 b = 1
      · rw [if_pos h1, if_neg (fun e => hn ⟨h1, e⟩)]
      · rw [if_neg h1]
    by_cases h1 : t.1 1 b = 1
    · rw [if_pos h1, hG.2.2.2.1 b hb4 h1]
      by_cases h2 : t.1 2 b = nI k
      · rw [if_pos h2]
        have hle : 64 / 2 ^ (k + 1) ≤ 32 := by
          rcases pow5 hk with ⟨-, e⟩ | ⟨-, e⟩ | ⟨-, e⟩ | ⟨-, e⟩ | ⟨-, e⟩ <;> rw [e] <;> decide
        have h35 := FC35 (mi := mi) (K := pX3_freeCell_2 c f) (K' := pX5_small_2 f') hG (by omega) hk h1 h2 (64 / 2 ^ (k + 1)) 0 FU FU (by omega) (FU_ge (by omega)) (FU_ge (by omega))
        rw [Nat.zero_mul, Nat.add_zero, nI_0] at h35
        rcases h35 with ⟨a, g1, g2, g3⟩ | ⟨g2, g3⟩
        · exact Or.inl ⟨a, g1, g2, g3⟩
        · rw [g2, g3]
          exact ih
      · rw [if_neg h2, skip (fun q => h2 q.2)]
        exact ih
    · rw [if_neg h1, skip (fun q => h1 q.1)]
      exact ih
