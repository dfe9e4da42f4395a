def r7 (s : HS) (A : Nat → Int32) : HS := (fun k => if k = 7 then A else s.1 k, s.2)
def r3 (s : HS) (A : Nat → Int32) : HS := (fun k => if k = 3 then A else s.1 k, s.2)
def f3 (s : HS) (S Dl Br : Nat → Int32) : HS := (fun k => if k = 1 then S else if k = 2 then Dl else if k = 3 then Br else s.1 k, s.2)
theorem r7_7 (s : HS) (A : Nat → Int32) (i : Nat) (v : Int32) : hs (r7 s A) 7 i v = r7 s (upd A i v) := by
  refine hs_ext (fun k j => ?_) rfl
  by_cases h : k = 7
  · subst h; rw [hs_eq]; rfl
  · rw [hs_nk h]; simp [r7, h]
theorem r3_3 (s : HS) (A : Nat → Int32) (i : Nat) (v : Int32) : hs (r3 s A) 3 i v = r3 s (upd A i v) := by
  refine hs_ext (fun k j => ?_) rfl
  by_cases h : k = 3
  · subst h; rw [hs_eq]; rfl
  · rw [hs_nk h]; simp [r3, h]
theorem f3_123 (s : HS) (S Dl Br : Nat → Int32) (i : Nat) (u v w : Int32) : hs (hs (hs (f3 s S Dl Br) 1 i u) 2 i v) 3 i w = f3 s (upd S i u) (upd Dl i v) (upd Br i w) := by
  refine hs_ext (fun k j => ?_) rfl
  by_cases h3 : k = 3
  · subst h3; rw [hs_eq, hs_nk (by decide), hs_nk (by decide)]; rfl
  · rw [hs_nk h3]
    by_cases h2 : k = 2
    · subst h2; rw [hs_eq, hs_nk (by decide)]; rfl
    · rw [hs_nk h2]
      by_cases h1 : k = 1
      · subst h1; rw [hs_eq]; rfl
      · rw [hs_nk h1]; simp [f3, h1, h2, h3]
theorem r7_self (s : HS) : s = r7 s (s.1 7) := by
  refine hs_ext (fun k j => ?_) rfl
  by_cases h : k = 7
  · subst h; rfl
  · simp [r7, h]
theorem f3_self (s : HS) : s = f3 s (s.1 1) (s.1 2) (s.1 3) := by
  refine hs_ext (fun k j => ?_) rfl
  by_cases h1 : k = 1
  · subst h1; rfl
  · by_cases h2 : k = 2
    · subst h2; rfl
    · by_cases h3 : k = 3
      · subst h3; rfl
      · simp [f3, h1, h2, h3]
def swp (x : Int32) : Int32 := if x = 2 then 3 else if x = 1 then 0 else x
theorem S4 {s : HS} {A0 : Nat → Int32} : ∀ m i f A, i + m = 768 → m < f → (∀ k, k < 768 → A k = if k < i then swp (A0 k) else A0 k) → ∃ A', pX3_sweep_4 f (r7 s A) (nI (cnt (fun k => decide (A0 k = 1)) i)) (nI i) = some (nI (cnt (fun k => decide (A0 k = 1)) 768), r7 s A') ∧ ∀ k, k < 768 → A' k = swp (A0 k) := by
  intro m
  induction m with
  | zero =>
    intro i f A hi hf h
    obtain ⟨f, rfl⟩ : ∃ g, f = g + 1 := ⟨f - 1, by omega⟩
    unfold pX3_sweep_4
    rw [l768, if_pos (nI_le (by omega) (by omega)), show i = 768 by omega]
    exact ⟨A, rfl, fun k hk => by rw [h k hk, if_pos (by omega)]⟩
  | succ m ih =>
    intro i f A hi hf h
    obtain ⟨f, rfl⟩ : ∃ g, f = g + 1 := ⟨f - 1, by omega⟩
    unfold pX3_sweep_4
    have e7 : (r7 s A).1 7 i = A i := rfl
    have hAi : A i = A0 i := by rw [h i (by omega), if_neg (by omega)]
    rw [l768, if_neg (nI_ge (by omega) (by omega)), ldA_n (by omega) (by omega), ldA_n (by omega) (by omega), e7, hAi, nI_1, nI_1]
    have nxt : ∀ A1 : Nat → Int32, A1 i = swp (A0 i) → (∀ k, k ≠ i → A1 k = A k) → ∀ k, k < 768 → A1 k = if k < i + 1 then swp (A0 k) else A0 k := by
      intro A1 g1 g2 k hk
      by_cases hki : k = i
      · subst hki; rw [g1, if_pos (by omega)]
      · rw [g2 k hki, h k hk]
        by_cases hlt : k < i
        · rw [if_pos hlt, if_pos (by omega)]
        · rw [if_neg hlt, if_neg (by omega)]
    by_cases h2 : A0 i = 2
    · rw [if_pos h2, stA_n (by omega) (by omega), r7_7]
      have ih := ih (i + 1) f (upd A i 3) (by omega) (by omega) (nxt _ (by rw [pk_us]; unfold swp; rw [if_pos h2]) (fun k hk => pk_un hk))
      rw [cnt_f (decide_eq_false (by rw [h2]; decide))] at ih
      exact ih
    · rw [if_neg h2]
      by_cases h1 : A0 i = 1
      · rw [if_pos h1, stA_n (by omega) (by omega), r7_7]
        have ih := ih (i + 1) f (upd A i 0) (by omega) (by omega) (nxt _ (by rw [pk_us]; unfold swp; rw [if_neg h2, if_pos h1]) (fun k hk => pk_un hk))
        rw [cnt_t (decide_eq_true h1)] at ih
        exact ih
      · rw [if_neg h1]
        have ih := ih (i + 1) f A (by omega) (by omega) (nxt _ (by rw [hAi]; unfold swp; rw [if_neg h2, if_neg h1]) (fun k hk => rfl))
        rw [cnt_f (decide_eq_false h1)] at ih
        exact ih
theorem sweepC {s : HS} : ∃ A', pX3_sweep s = some (nI (cnt (fun k => decide (s.1 7 k = 1)) 768), r7 s A') ∧ ∀ k, k < 768 → A' k = swp (s.1 7 k) := by
  obtain ⟨A', p1, p2⟩ := S4 (s := s) (A0 := s.1 7) 768 0 FU (s.1 7) (by omega) (FU_ge (by omega)) (fun k hk => by rw [if_neg (by omega)])
  rw [← r7_self s, nI_0] at p1
  exact ⟨A', p1, p2⟩
def tin (s : HS) (b : Nat) : Nat := cnt (fun k => decide (¬ s.1 7 (b * 32 + k) < 1)) 32
theorem FE2 {s : HS} {B : Nat} {S0 nS : Nat → Int32} (hB : B ≤ 24) (hbb : s.1 0 0 = nI B) (h0 : ∀ b, b < B → S0 b = 0 → tin s b = 0) (ho : ∀ b, b < B → (b = 0 ∨ ¬ S0 b = 3) → (tin s b = 0 → nS b = 0) ∧ (¬ tin s b = 0 → nS b = S0 b)) (hh : ∀ b, b < B → 0 < b → S0 b = 3 → (nS (b - 1) = 0 → nS b = 0) ∧ (¬ nS (b - 1) = 0 → nS b = S0 b)) : ∀ m b f S Dl Br, b + m = B → m < f → (∀ k, k < 24 → S k = if k < b then nS k else S0 k) → ∃ S' Dl' Br', pX3_freeEmptyBlocks_2 f (f3 s S Dl Br) (nI b) = some (f3 s S' Dl' Br') ∧ (∀ k, k < 24 → S' k = if k < B then nS k else S0 k) ∧ ∀ k, (b ≤ k ∧ k < B → Dl' k = if nS k = 0 then 0 else Dl k) ∧ (¬ (b ≤ k ∧ k < B) → Dl' k = Dl k ∧ Br' k = Br k) := by
  intro m
  induction m with
  | zero =>
    intro b f S Dl Br hb hf h
    obtain ⟨f, rfl⟩ : ∃ g, f = g + 1 := ⟨f - 1, by omega⟩
    unfold pX3_freeEmptyBlocks_2
    have e0 : (f3 s S Dl Br).1 0 0 = nI B := hbb
    rw [e0, if_pos (nI_le (by omega) (by omega))]
    have e : b = B := by omega
    subst e
    exact ⟨S, Dl, Br, rfl, h, fun k => ⟨fun hk => by omega, fun _ => ⟨rfl, rfl⟩⟩⟩
  | succ m ih =>
    intro b f S Dl Br hb hf h
    obtain ⟨f, rfl⟩ : ∃ g, f = g + 1 := ⟨f - 1, by omega⟩
    have e0 : (f3 s S Dl Br).1 0 0 = nI B := hbb
    have hSb : S b = S0 b := by rw [h b (by omega), if_neg (by omega)]
    have turned : nS b = 0 → ∃ S' Dl' Br', pX3_freeEmptyBlocks_67 (pX3_freeEmptyBlocks_2 f) (f3 s S Dl Br) (nI b) 1 = some (f3 s S' Dl' Br') ∧ (∀ k, k < 24 → S' k = if k < B then nS k else S0 k) ∧ ∀ k, (b ≤ k ∧ k < B → Dl' k = if nS k = 0 then 0 else Dl k) ∧ (¬ (b ≤ k ∧ k < B) → Dl' k = Dl k ∧ Br' k = Br k) := by
      intro hn
      unfold pX3_freeEmptyBlocks_67
      rw [if_neg (by decide), turn_n 0 0 (by omega), bd1_s, f3_123, nI_1]
      obtain ⟨S', Dl', Br', p1, p2, p3⟩ := ih (b + 1) f (upd S b 0) (upd Dl b 0) (upd Br b 0) (by omega) (by omega) (fun k hk => by
        by_cases hkb : k = b
        · subst hkb; rw [pk_us, if_pos (by omega), hn]
        · rw [pk_un hkb, h k hk]
          by_cases hlt : k < b
          · rw [if_pos hlt, if_pos (by omega)]
          · rw [if_neg hlt, if_neg (by omega)])
      refine ⟨S', Dl', Br', p1, p2, fun k => ⟨fun hk => ?_, fun hk => ?_⟩⟩
      · by_cases hkb : k = b
        · subst hkb
          rw [((p3 k).2 (by omega)).1, pk_us, if_pos hn]
        · rw [(p3 k).1 (by omega), pk_un hkb]
      · obtain ⟨x1, x2⟩ := (p3 k).2 (by omega)
        rw [x1, x2, pk_un (by omega), pk_un (by omega)]
        exact ⟨rfl, rfl⟩
    have kept : nS b = S0 b → ¬ S0 b = 0 → ∃ S' Dl' Br', pX3_freeEmptyBlocks_67 (pX3_freeEmptyBlocks_2 f) (f3 s S Dl Br) (nI b) 0 = some (f3 s S' Dl' Br') ∧ (∀ k, k < 24 → S' k = if k < B then nS k else S0 k) ∧ ∀ k, (b ≤ k ∧ k < B → Dl' k = if nS k = 0 then 0 else Dl k) ∧ (¬ (b ≤ k ∧ k < B) → Dl' k = Dl k ∧ Br' k = Br k) := by
      intro hn hz
      unfold pX3_freeEmptyBlocks_67
      rw [if_pos rfl, nI_1]
      obtain ⟨S', Dl', Br', p1, p2, p3⟩ := ih (b + 1) f S Dl Br (by omega) (by omega) (fun k hk => by
        by_cases hkb : k = b
        · subst hkb; rw [hSb, if_pos (by omega), hn]
        · rw [h k hk]
          by_cases hlt : k < b
          · rw [if_pos hlt, if_pos (by omega)]
          · rw [if_neg hlt, if_neg (by omega)])
      refine ⟨S', Dl', Br', p1, p2, fun k => ⟨fun hk => ?_, fun hk => (p3 k).2 (by omega)⟩⟩
      by_cases hkb : k = b
      · subst hkb
        rw [((p3 k).2 (by omega)).1, if_neg (by rw [hn]; exact hz)]
      · exact (p3 k).1 (by omega)
    have hth : pX3_thingsIn (f3 s S Dl Br) (nI b) 1 = some (nI (tin s b)) := thingsIn_n (c := f3 s S Dl Br) 1 (by omega)
    have hle : tin s b ≤ 32 := cnt_le _ 32
    have other : (b = 0 ∨ ¬ S0 b = 3) → ∃ S' Dl' Br', pX3_freeEmptyBlocks_29 (pX3_freeEmptyBlocks_2 f) (f3 s S Dl Br) (nI b) 0 = some (f3 s S' Dl' Br') ∧ (∀ k, k < 24 → S' k = if k < B then nS k else S0 k) ∧ ∀ k, (b ≤ k ∧ k < B → Dl' k = if nS k = 0 then 0 else Dl k) ∧ (¬ (b ≤ k ∧ k < B) → Dl' k = Dl k ∧ Br' k = Br k) := by
      intro hc
      unfold pX3_freeEmptyBlocks_29
      rw [if_pos rfl, hth, bd1_s]
      by_cases ht : tin s b = 0
      · rw [ht, if_pos nI_0]
        exact turned ((ho b (by omega) hc).1 ht)
      · rw [if_neg (nI_ne0 (by omega) (by omega))]
        exact kept ((ho b (by omega) hc).2 ht) (fun e => ht (h0 b (by omega) e))
    unfold pX3_freeEmptyBlocks_2
    rw [e0, if_neg (nI_ge (by omega) (by omega))]
    by_cases hb0 : b = 0
    · rw [hb0, if_pos (by decide), ← hb0]
      exact other (Or.inl hb0)
    · have eS : (f3 s S Dl Br).1 1 b = S b := rfl
      rw [if_neg (nI_nle (by omega) (by omega)), ldA_n (by omega) (by omega), eS, hSb]
      by_cases h3 : S0 b = 3
      · rw [if_pos h3]
        unfold pX3_freeEmptyBlocks_29
        have eS1 : (f3 s S Dl Br).1 1 (b - 1) = nS (b - 1) := by
          show S (b - 1) = nS (b - 1)
          rw [h (b - 1) (by omega), if_pos (by omega)]
        rw [if_neg (by decide), l1, pk_sub (by omega), ldA_n (by omega) (by omega), eS1, ← l1]
        by_cases hp : nS (b - 1) = 0
        · rw [if_pos hp]
          exact turned ((hh b (by omega) (by omega) h3).1 hp)
        · rw [if_neg hp]
          exact kept ((hh b (by omega) (by omega) h3).2 hp) (by rw [h3]; decide)
      · rw [if_neg h3]
        exact other (Or.inr h3)
theorem B25 {s : HS} {B q : Nat} (hB : B ≤ 24) (hl : s.1 0 1 = nI (64 * B)) (hq : q ≤ 24) : ∀ m i f Br, i + m = q → m < f → ∃ Br', pX3_barBy_25 f (r3 s Br) (nI q) (nI i) = some (r3 s Br') ∧ (∀ k, k < 24 → (Br k = 0 ∨ Br k = 1) → (Br' k = 0 ∨ Br' k = 1) ∧ (Br' k = 1 ↔ (Br k = 1 ∨ (k < B ∧ s.1 1 k = 0 ∧ ∃ j, i ≤ j ∧ j < q ∧ inBlk (s.1 11 j) k)))) := by
  intro m
  induction m with
  | zero =>
    intro i f Br hi hf
    obtain ⟨f, rfl⟩ : ∃ g, f = g + 1 := ⟨f - 1, by omega⟩
    unfold pX3_barBy_25
    rw [if_pos (nI_le (by omega) (by omega))]
    refine ⟨Br, rfl, fun k _ h01 => ⟨h01, Or.inl, fun h => ?_⟩⟩
    rcases h with h | ⟨-, -, j, j1, j2, -⟩
    · exact h
    · omega
  | succ m ih =>
    intro i f Br hi hf
    obtain ⟨f, rfl⟩ : ∃ g, f = g + 1 := ⟨f - 1, by omega⟩
    unfold pX3_barBy_25
    have e11 : (r3 s Br).1 11 i = s.1 11 i := rfl
    have e1 : (r3 s Br).1 0 1 = nI (64 * B) := hl
    rw [if_neg (nI_ge (by omega) (by omega)), l24, if_neg (nI_ge (by omega) (by omega)), ldA_n (by omega) (by omega), e11, e1, nI_1]
    have skip : (∀ k, k < B → s.1 1 k = 0 → ¬ inBlk (s.1 11 i) k) → ∃ Br', pX3_barBy_25 f (r3 s Br) (nI q) (nI (i + 1)) = some (r3 s Br') ∧ (∀ k, k < 24 → (Br k = 0 ∨ Br k = 1) → (Br' k = 0 ∨ Br' k = 1) ∧ (Br' k = 1 ↔ (Br k = 1 ∨ (k < B ∧ s.1 1 k = 0 ∧ ∃ j, i ≤ j ∧ j < q ∧ inBlk (s.1 11 j) k)))) := by
      intro hn
      obtain ⟨Br', p1, p2⟩ := ih (i + 1) f Br (by omega) (by omega)
      refine ⟨Br', p1, fun k hk h01 => ⟨(p2 k hk h01).1, ?_⟩⟩
      rw [(p2 k hk h01).2]
      constructor
      · rintro (h | ⟨h1, h2, j, j1, j2, j3⟩)
        · exact Or.inl h
        · exact Or.inr ⟨h1, h2, j, by omega, j2, j3⟩
      · rintro (h | ⟨h1, h2, j, j1, j2, j3⟩)
        · exact Or.inl h
        · by_cases hji : j = i
          · subst hji; exact absurd j3 (hn k h1 h2)
          · exact Or.inr ⟨h1, h2, j, by omega, j2, j3⟩
    rcases pk_ix (s.1 11 i) (n := 64 * B) (by omega) with g | g | ⟨x, g1, g2⟩
    · rw [if_pos g]
      exact skip (fun k hk _ ⟨j, hj, e⟩ => by rw [e] at g; exact absurd g (nI_pos (by omega)))
    · have hg : ∀ k, k < B → s.1 1 k = 0 → ¬ inBlk (s.1 11 i) k := fun k hk _ ⟨j, hj, e⟩ => by
        rw [e] at g
        have := (nI_leI (by omega) (by omega)).mp g
        omega
      by_cases g0 : s.1 11 i < 0
      · rw [if_pos g0]
        exact skip hg
      · rw [if_neg g0, if_neg (Int32.not_lt.mpr g)]
        exact skip hg
    · have hblk : ∀ k, inBlk (s.1 11 i) k → k < 24 → k = x / 64 := by
        rintro k ⟨j, hj, e⟩ hk
        rw [g2] at e
        have : x = 64 * k + j := (nI_eq (by omega) (by omega)).mp e
        omega
      rw [g2, if_neg (nI_pos (by omega)), if_pos (nI_lt g1 (by omega)), l64, pk_div (by omega) (by omega) (by omega), ldA_n (by omega) (by omega)]
      have eS : (r3 s Br).1 1 (x / 64) = s.1 1 (x / 64) := rfl
      rw [eS]
      by_cases hs0 : s.1 1 (x / 64) = 0
      · rw [if_pos hs0, stA_n (by omega) (by omega), r3_3]
        obtain ⟨Br', p1, p2⟩ := ih (i + 1) f (upd Br (x / 64) 1) (by omega) (by omega)
        refine ⟨Br', p1, fun k hk h01 => ?_⟩
        by_cases hkx : k = x / 64
        · have p2 := p2 k hk (by rw [hkx, pk_us]; exact Or.inr rfl)
          refine ⟨p2.1, ?_⟩
          rw [p2.2]
          constructor
          · intro _
            refine Or.inr ⟨by omega, by rw [hkx]; exact hs0, i, Nat.le_refl i, by omega, x - 64 * k, by omega, ?_⟩
            rw [g2, show 64 * k + (x - 64 * k) = x by omega]
          · intro _
            left
            rw [hkx, pk_us]
        · have p2 := p2 k hk (by rw [pk_un hkx]; exact h01)
          refine ⟨p2.1, ?_⟩
          rw [p2.2, pk_un hkx]
          constructor
          · rintro (h | ⟨h1, h2, j, j1, j2, j3⟩)
            · exact Or.inl h
            · exact Or.inr ⟨h1, h2, j, by omega, j2, j3⟩
          · rintro (h | ⟨h1, h2, j, j1, j2, j3⟩)
            · exact Or.inl h
            · by_cases hji : j = i
              · subst hji; exact absurd (hblk k j3 hk) hkx
              · exact Or.inr ⟨h1, h2, j, by omega, j2, j3⟩
      · rw [if_neg hs0]
        refine skip (fun k hk h2 h3 => ?_)
        have := hblk k h3 (by omega)
        subst this
        exact hs0 h2
theorem B2 {s : HS} {B : Nat} {q : Int32} (hB : B ≤ 24) (hbb : s.1 0 0 = nI B) : ∀ m i f, i + m = B → m < f → pX3_barBy_2 f (hfill s 3 i 0) q (nI i) = pX3_barBy_25 FU (hfill s 3 B 0) q 0 := by
  intro m
  induction m with
  | zero =>
    intro i f hi hf
    obtain ⟨f, rfl⟩ : ∃ g, f = g + 1 := ⟨f - 1, by omega⟩
    unfold pX3_barBy_2
    have e0 : (hfill s 3 i 0).1 0 0 = nI B := hbb
    rw [e0, if_pos (nI_le (by omega) (by omega)), show i = B by omega]
  | succ m ih =>
    intro i f hi hf
    obtain ⟨f, rfl⟩ : ∃ g, f = g + 1 := ⟨f - 1, by omega⟩
    unfold pX3_barBy_2
    have e0 : (hfill s 3 i 0).1 0 0 = nI B := hbb
    rw [e0, if_neg (nI_ge (by omega) (by omega)), stA_n (by omega) (by omega), hf_step, nI_1]
    exact ih (i + 1) f (by omega) (by omega)
theorem barC {s : HS} {B q : Nat} (hB : B ≤ 24) (hbb : s.1 0 0 = nI B) (hl : s.1 0 1 = nI (64 * B)) (hq : q ≤ 24) (h01 : ∀ k, B ≤ k → k < 24 → s.1 3 k = 0 ∨ s.1 3 k = 1) : ∃ Br', pX3_barBy s (nI q) = some (r3 s Br') ∧ (∀ k, k < B → (Br' k = 0 ∨ Br' k = 1) ∧ (Br' k = 1 ↔ (s.1 1 k = 0 ∧ ∃ j, j < q ∧ inBlk (s.1 11 j) k))) ∧ ∀ k, B ≤ k → k < 24 → Br' k = s.1 3 k := by
  have h2 := B2 (s := s) (q := nI q) hB hbb B 0 FU (by omega) (FU_ge (by omega))
  rw [hf_0, nI_0] at h2
  have er : hfill s 3 B 0 = r3 s (fun j => if j < B then 0 else s.1 3 j) := by
    refine hs_ext (fun k j => ?_) rfl
    by_cases h : k = 3
    · subst h; rw [hf_eq]; rfl
    · rw [hf_nk h]; simp [r3, h]
  obtain ⟨Br', p1, p2⟩ := B25 (s := s) hB hl hq q 0 FU (fun j => if j < B then 0 else s.1 3 j) (by omega) (FU_ge (by omega))
  rw [nI_0] at p1
  refine ⟨Br', ?_, fun k hk => ?_, fun k hk hk2 => ?_⟩
  · unfold pX3_barBy
    rw [h2, er]
    exact p1
  · have hz : (if k < B then 0 else s.1 3 k) = (0 : Int32) := if_pos hk
    have p2 := p2 k (by omega) (Or.inl hz)
    refine ⟨p2.1, ?_⟩
    rw [p2.2, hz]
    constructor
    · rintro (h | ⟨h1, h2, j, j1, j2, j3⟩)
      · exact absurd h (by decide)
      · exact ⟨h2, j, j2, j3⟩
    · rintro ⟨h2, j, j2, j3⟩
      exact Or.inr ⟨hk, h2, j, by omega, j2, j3⟩
  · have hz : (if k < B then 0 else s.1 3 k) = s.1 3 k := if_neg (by omega)
    have p2 := p2 k hk2 (by
      show (if k < B then 0 else s.1 3 k) = 0 ∨ (if k < B then 0 else s.1 3 k) = 1
      rw [hz]; exact h01 k hk hk2)
    rw [hz] at p2
    rcases h01 k hk hk2 with e | e
    · rcases p2.1 with e2 | e2
      · rw [e, e2]
      · rcases p2.2.mp e2 with h | ⟨h, -⟩
        · rw [e] at h; exact absurd h (by decide)
        · omega
    · rw [e]
      exact p2.2.mpr (Or.inl e)
