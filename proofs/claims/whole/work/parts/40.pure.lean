def tdM (s : HS) (S Dt Br : Nat → Int32) : HS := (fun k => if k = 1 then S else if k = 3 then Dt else if k = 4 then Br else s.1 k, s.2)
theorem tdM_1 (s : HS) (S Dt Br : Nat → Int32) (i : Nat) (v : Int32) : hs (tdM s S Dt Br) 1 i v = tdM s (upd S i v) Dt Br := by
  refine hs_ext (fun k j => ?_) rfl
  by_cases h : k = 1
  · subst h; rw [hs_eq]; rfl
  · rw [hs_nk h]; simp [tdM, h]
theorem tdM_3 (s : HS) (S Dt Br : Nat → Int32) (i : Nat) (v : Int32) : hs (tdM s S Dt Br) 3 i v = tdM s S (upd Dt i v) Br := by
  refine hs_ext (fun k j => ?_) rfl
  by_cases h : k = 3
  · subst h; rw [hs_eq]; rfl
  · rw [hs_nk h]; simp [tdM, h]
theorem tdM_4 (s : HS) (S Dt Br : Nat → Int32) (i : Nat) (v : Int32) : hs (tdM s S Dt Br) 4 i v = tdM s S Dt (upd Br i v) := by
  refine hs_ext (fun k j => ?_) rfl
  by_cases h : k = 4
  · subst h; rw [hs_eq]; rfl
  · rw [hs_nk h]; simp [tdM, h]
theorem tdM_self (s : HS) : s = tdM s (s.1 1) (s.1 3) (s.1 4) := by
  refine hs_ext (fun k j => ?_) rfl
  by_cases h1 : k = 1
  · subst h1; rfl
  · by_cases h6 : k = 3
    · subst h6; rfl
    · by_cases h7 : k = 4
      · subst h7; rfl
      · simp [tdM, h1, h6, h7]
def inBlk (w : Int32) (b : Nat) : Prop := ∃ j, j < 64 ∧ w = nI (64 * b + j)
theorem in_blk {w : Int32} {b : Nat} (hb : b < 24) : (inBlk w b → pX5_in w (64 * nI b) (((64 * nI b) + 64) - 1) = 1) ∧ (¬ inBlk w b → pX5_in w (64 * nI b) (((64 * nI b) + 64) - 1) = 0) := by
  rw [l64, pk_mul, nI_add]
  constructor
  · rintro ⟨j, hj, rfl⟩
    exact in_t (by omega) (by omega) (by omega)
  · intro h
    exact in_f (by omega) (by omega) (fun j h1 h2 e => h ⟨j - 64 * b, by omega, by rw [e, show 64 * b + (j - 64 * b) = j by omega]⟩)
theorem T61 {s : HS} {b q : Nat} {S Dt : Nat → Int32} {K : HS → Int32 → Option HS} (hb : b < 24) (hq : q ≤ 24) (hd : s.1 0 1 = nI q) : ∀ m i f Br, i + m = q → m < f → (Br b = 0 ∨ Br b = 1) → ∃ Br', pX5_tidy_61 K f (tdM s S Dt Br) (nI b) (nI i) = K (tdM s S Dt Br') (nI (b + 1)) ∧ (∀ k, k ≠ b → Br' k = Br k) ∧ (Br' b = 0 ∨ Br' b = 1) ∧ (Br' b = 1 ↔ (Br b = 1 ∨ (S b = 0 ∧ ∃ k, i ≤ k ∧ k < q ∧ inBlk (s.1 12 k) b))) := by
  intro m
  induction m with
  | zero =>
    intro i f Br hi hf h01
    obtain ⟨f, rfl⟩ : ∃ g, f = g + 1 := ⟨f - 1, by omega⟩
    unfold pX5_tidy_61
    have e1 : (tdM s S Dt Br).1 0 1 = nI q := hd
    rw [e1, if_pos (nI_le (by omega) (by omega)), nI_1]
    refine ⟨Br, rfl, fun _ _ => rfl, h01, ⟨Or.inl, fun h => ?_⟩⟩
    rcases h with h | ⟨-, k, k1, k2, -⟩
    · exact h
    · omega
  | succ m ih =>
    intro i f Br hi hf h01
    obtain ⟨f, rfl⟩ : ∃ g, f = g + 1 := ⟨f - 1, by omega⟩
    unfold pX5_tidy_61
    have e1 : (tdM s S Dt Br).1 0 1 = nI q := hd
    have e4 : (tdM s S Dt Br).1 4 b = Br b := rfl
    have eS : (tdM s S Dt Br).1 1 b = S b := rfl
    have e12 : (tdM s S Dt Br).1 12 i = s.1 12 i := rfl
    rw [e1, if_neg (nI_ge (by omega) (by omega)), ldA_n hb (by omega), e4, ldA_n hb (by omega), eS, ldA_n (by omega) (by omega), e12, nI_1]
    have step : ∀ v : Int32, (v = 0 ∨ v = 1) → (v = 1 ↔ (Br b = 1 ∨ (S b = 0 ∧ inBlk (s.1 12 i) b))) → ∃ Br', (stZ (tdM s S Dt Br) 4 24 (nI b) v fun c => pX5_tidy_61 K f c (nI b) (nI (i + 1))) = K (tdM s S Dt Br') (nI (b + 1)) ∧ (∀ k, k ≠ b → Br' k = Br k) ∧ (Br' b = 0 ∨ Br' b = 1) ∧ (Br' b = 1 ↔ (Br b = 1 ∨ (S b = 0 ∧ ∃ k, i ≤ k ∧ k < q ∧ inBlk (s.1 12 k) b))) := by
      intro v hv hiff
      rw [stZ_n hb (by omega) hv, tdM_4]
      obtain ⟨Br', p1, p2, p3, p4⟩ := ih (i + 1) f (upd Br b v) (by omega) (by omega) (by rw [pk_us]; exact hv)
      refine ⟨Br', p1, fun k hk => by rw [p2 k hk, pk_un hk], p3, ?_⟩
      rw [p4, pk_us, hiff]
      constructor
      · rintro ((h | ⟨h1, h2⟩) | ⟨h1, k, k1, k2, k3⟩)
        · exact Or.inl h
        · exact Or.inr ⟨h1, i, Nat.le_refl i, by omega, h2⟩
        · exact Or.inr ⟨h1, k, by omega, k2, k3⟩
      · rintro (h | ⟨h1, k, k1, k2, k3⟩)
        · exact Or.inl (Or.inl h)
        · by_cases hk : k = i
          · subst hk; exact Or.inl (Or.inr ⟨h1, k3⟩)
          · exact Or.inr ⟨h1, k, by omega, k2, k3⟩
    have hin := in_blk (w := s.1 12 i) hb
    rcases h01 with h0 | h0
    · rw [if_pos h0]
      by_cases hS : S b = 0
      · rw [if_pos hS]
        by_cases hi2 : inBlk (s.1 12 i) b
        · rw [hin.1 hi2, if_neg (by decide)]
          exact step 1 (Or.inr rfl) ⟨fun _ => Or.inr ⟨hS, hi2⟩, fun _ => rfl⟩
        · rw [hin.2 hi2, if_pos rfl]
          refine step 0 (Or.inl rfl) ⟨fun h => absurd h (by decide), fun h => ?_⟩
          rcases h with h | h
          · rw [h0] at h; exact absurd h (by decide)
          · exact absurd h.2 hi2
      · rw [if_neg hS]
        refine step 0 (Or.inl rfl) ⟨fun h => absurd h (by decide), fun h => ?_⟩
        rcases h with h | h
        · rw [h0] at h; exact absurd h (by decide)
        · exact absurd h.1 hS
    · rw [if_neg (by rw [h0]; decide)]
      exact step 1 (Or.inr rfl) ⟨fun _ => Or.inl h0, fun _ => rfl⟩
noncomputable def nuS (s : HS) (S : Nat → Int32) (b : Nat) : Int32 := if S b = 1 ∧ cnt (fun k => decide (¬ s.1 6 (64 * b + k) = 0)) 64 = 0 then 0 else S b
theorem T12 {s : HS} {B q : Nat} (hB : B ≤ 24) (hbb : s.1 0 0 = nI B) (hq : q ≤ 24) (hd : s.1 0 1 = nI q) : ∀ m b f S Dt Br, b + m = B → m < f → ∃ S' Dt' Br', pX5_tidy_12 f (tdM s S Dt Br) (nI b) = some (tdM s S' Dt' Br') ∧ (∀ k, (b ≤ k ∧ k < B → S' k = nuS s S k ∧ Dt' k = 0 ∧ (Br' k = 0 ∨ Br' k = 1) ∧ (Br' k = 1 ↔ (nuS s S k = 0 ∧ ∃ j, j < q ∧ inBlk (s.1 12 j) k))) ∧ (¬ (b ≤ k ∧ k < B) → S' k = S k ∧ Dt' k = Dt k ∧ Br' k = Br k)) := by
  intro m
  induction m with
  | zero =>
    intro b f S Dt Br hb hf
    obtain ⟨f, rfl⟩ : ∃ g, f = g + 1 := ⟨f - 1, by omega⟩
    unfold pX5_tidy_12
    have e0 : (tdM s S Dt Br).1 0 0 = nI B := hbb
    rw [e0, if_pos (nI_le (by omega) (by omega))]
    exact ⟨S, Dt, Br, rfl, fun k => ⟨fun h => by omega, fun _ => ⟨rfl, rfl, rfl⟩⟩⟩
  | succ m ih =>
    intro b f S Dt Br hb hf
    obtain ⟨f, rfl⟩ : ∃ g, f = g + 1 := ⟨f - 1, by omega⟩
    unfold pX5_tidy_12
    have e0 : (tdM s S Dt Br).1 0 0 = nI B := hbb
    rw [e0, if_neg (nI_ge (by omega) (by omega)), stZ_n (by omega) (by omega) (Or.inl rfl), tdM_3, ldA_n (by omega) (by omega)]
    have eS : (tdM s S (upd Dt b 0) Br).1 1 b = S b := rfl
    rw [eS]
    have hu : pX5_used (tdM s S (upd Dt b 0) Br) (nI b) = some (nI (cnt (fun k => decide (¬ s.1 6 (64 * b + k) = 0)) 64)) := used_n (t := tdM s S (upd Dt b 0) Br) (by omega)
    have core : ∀ S1 : Nat → Int32, (∀ k, k ≠ b → S1 k = S k) → S1 b = nuS s S b → ∃ S' Dt' Br', pX5_tidy_52 (pX5_tidy_12 f) (tdM s S1 (upd Dt b 0) Br) (nI b) = some (tdM s S' Dt' Br') ∧ (∀ k, (b ≤ k ∧ k < B → S' k = nuS s S k ∧ Dt' k = 0 ∧ (Br' k = 0 ∨ Br' k = 1) ∧ (Br' k = 1 ↔ (nuS s S k = 0 ∧ ∃ j, j < q ∧ inBlk (s.1 12 j) k))) ∧ (¬ (b ≤ k ∧ k < B) → S' k = S k ∧ Dt' k = Dt k ∧ Br' k = Br k)) := by
      intro S1 g1 g2
      unfold pX5_tidy_52
      rw [stZ_n (by omega) (by omega) (Or.inl rfl), tdM_4]
      obtain ⟨Br1, p1, p2, p3, p4⟩ := T61 (S := S1) (Dt := upd Dt b 0) (K := pX5_tidy_12 f) (b := b) (by omega) hq hd q 0 FU (upd Br b 0) (by omega) (FU_ge (by omega)) (Or.inl pk_us)
      rw [nI_0] at p1
      rw [p1]
      obtain ⟨S', Dt', Br', r1, r2⟩ := ih (b + 1) f S1 (upd Dt b 0) Br1 (by omega) (by omega)
      refine ⟨S', Dt', Br', r1, fun k => ⟨fun hk => ?_, fun hk => ?_⟩⟩
      · by_cases hkb : k = b
        · subst hkb
          obtain ⟨x1, x2, x3⟩ := (r2 k).2 (by omega)
          rw [x1, x2, x3, pk_us, g2]
          refine ⟨rfl, rfl, p3, ?_⟩
          rw [p4, pk_us, g2]
          constructor
          · rintro (h | ⟨h1, j, -, j2, j3⟩)
            · exact absurd h (by decide)
            · exact ⟨h1, j, j2, j3⟩
          · rintro ⟨h1, j, j2, j3⟩
            exact Or.inr ⟨h1, j, by omega, j2, j3⟩
        · obtain ⟨x1, x2, x3, x4⟩ := (r2 k).1 (by omega)
          have en : nuS s S1 k = nuS s S k := by unfold nuS; rw [g1 k hkb]
          rw [en] at x1 x4
          exact ⟨x1, x2, x3, x4⟩
      · obtain ⟨x1, x2, x3⟩ := (r2 k).2 (by omega)
        have hkb : k ≠ b := by omega
        rw [x1, x2, x3, g1 k hkb, pk_un hkb, p2 k hkb, pk_un hkb]
        exact ⟨rfl, rfl, rfl⟩
    have hle := cnt_le (fun k => decide (¬ s.1 6 (64 * b + k) = 0)) 64
    by_cases h1 : S b = 1
    · rw [if_pos h1, hu, bd1_s]
      by_cases h0 : cnt (fun k => decide (¬ s.1 6 (64 * b + k) = 0)) 64 = 0
      · rw [h0, if_pos nI_0, stA_n (by omega) (by omega), tdM_1]
        refine core (upd S b 0) (fun k hk => pk_un hk) ?_
        rw [pk_us]
        unfold nuS
        rw [if_pos ⟨h1, h0⟩]
      · rw [if_neg (nI_ne0 (by omega) (by omega))]
        refine core S (fun _ _ => rfl) ?_
        unfold nuS
        rw [if_neg (fun h => h0 h.2)]
    · rw [if_neg h1]
      refine core S (fun _ _ => rfl) ?_
      unfold nuS
      rw [if_neg (fun h => h1 h.1)]
theorem tidyM {s : HS} {B q : Nat} (hB : B ≤ 24) (hbb : s.1 0 0 = nI B) (hq : q ≤ 24) (hd : s.1 0 1 = nI q) : ∃ S' Dt' Br', pX5_tidy s = some (tdM (hs (hs s 0 2 0) 0 3 0) S' Dt' Br') ∧ (∀ k, (k < B → S' k = nuS s (s.1 1) k ∧ Dt' k = 0 ∧ (Br' k = 0 ∨ Br' k = 1) ∧ (Br' k = 1 ↔ (nuS s (s.1 1) k = 0 ∧ ∃ j, j < q ∧ inBlk (s.1 12 j) k))) ∧ (¬ k < B → S' k = s.1 1 k ∧ Dt' k = s.1 3 k ∧ Br' k = s.1 4 k)) := by
  obtain ⟨S', Dt', Br', r1, r2⟩ := T12 (s := hs (hs s 0 2 0) 0 3 0) hB hbb hq hd B 0 FU (s.1 1) (s.1 3) (s.1 4) (by omega) (FU_ge (by omega))
  have e : hs (hs s 0 2 0) 0 3 0 = tdM (hs (hs s 0 2 0) 0 3 0) (s.1 1) (s.1 3) (s.1 4) := tdM_self (hs (hs s 0 2 0) 0 3 0)
  rw [← e, nI_0] at r1
  refine ⟨S', Dt', Br', ?_, fun k => ⟨fun hk => (r2 k).1 ⟨by omega, hk⟩, fun hk => (r2 k).2 (by omega)⟩⟩
  unfold pX5_tidy pfA
  exact r1
