theorem PB_congr {P Q : Prop} (h : P ↔ Q) : PB P = PB Q := by
  by_cases hp : P
  · rw [PB_t hp, PB_t (h.mp hp)]
  · rw [PB_f hp, PB_f (fun q => hp (h.mpr q))]
def swM (s : HS) (S Bg Od : Nat → Int32) : HS := (fun k => if k = 1 then S else if k = 6 then Bg else if k = 7 then Od else s.1 k, s.2)
theorem swM_1 (s : HS) (S Bg Od : Nat → Int32) (i : Nat) (v : Int32) : hs (swM s S Bg Od) 1 i v = swM s (upd S i v) Bg Od := by
  refine hs_ext (fun k j => ?_) rfl
  by_cases h : k = 1
  · subst h; rw [hs_eq]; rfl
  · rw [hs_nk h]; simp [swM, h]
theorem swM_6 (s : HS) (S Bg Od : Nat → Int32) (i : Nat) (v : Int32) : hs (swM s S Bg Od) 6 i v = swM s S (upd Bg i v) Od := by
  refine hs_ext (fun k j => ?_) rfl
  by_cases h : k = 6
  · subst h; rw [hs_eq]; rfl
  · rw [hs_nk h]; simp [swM, h]
theorem swM_7 (s : HS) (S Bg Od : Nat → Int32) (i : Nat) (v : Int32) : hs (swM s S Bg Od) 7 i v = swM s S Bg (upd Od i v) := by
  refine hs_ext (fun k j => ?_) rfl
  by_cases h : k = 7
  · subst h; rw [hs_eq]; rfl
  · rw [hs_nk h]; simp [swM, h]
theorem swM_self (s : HS) : s = swM s (s.1 1) (s.1 6) (s.1 7) := by
  refine hs_ext (fun k j => ?_) rfl
  by_cases h1 : k = 1
  · subst h1; rfl
  · by_cases h6 : k = 6
    · subst h6; rfl
    · by_cases h7 : k = 7
      · subst h7; rfl
      · simp [swM, h1, h6, h7]
theorem free24 {s : HS} {b nb : Nat} {Bg Od : Nat → Int32} (hb : b + nb ≤ 24) : ∀ m j f S, j + m = b + nb → m < f → ∃ S', pX5_free_24 f (swM s S Bg Od) (nI b) (nI nb) (nI j) = some (swM s S' Bg Od) ∧ ∀ k, S' k = if j ≤ k ∧ k < b + nb then 0 else S k := by
  intro m
  induction m with
  | zero =>
    intro j f S hj hf
    obtain ⟨f, rfl⟩ : ∃ g, f = g + 1 := ⟨f - 1, by omega⟩
    unfold pX5_free_24
    rw [nI_add, if_pos (nI_le (by omega) (by omega))]
    exact ⟨S, rfl, fun k => (if_neg (by omega)).symm⟩
  | succ m ih =>
    intro j f S hj hf
    obtain ⟨f, rfl⟩ : ∃ g, f = g + 1 := ⟨f - 1, by omega⟩
    unfold pX5_free_24
    rw [nI_add, if_neg (nI_ge (by omega) (by omega)), stA_n (by omega) (by omega), swM_1, nI_1]
    obtain ⟨S', p1, p2⟩ := ih (j + 1) f (upd S j 0) (by omega) (by omega)
    refine ⟨S', p1, fun k => ?_⟩
    rw [p2 k]
    by_cases hk : k = j
    · subst hk
      rw [if_neg (by omega), if_pos (by omega), pk_us]
    · rw [pk_un hk]
      by_cases h2 : j + 1 ≤ k ∧ k < b + nb
      · rw [if_pos h2, if_pos (by omega)]
      · rw [if_neg h2, if_neg (by omega)]
def cov (t : HS) (f b : Nat) : Prop := ∃ r n, t.1 9 (64 * f) = nI r ∧ t.1 10 (64 * f) = nI n ∧ r + n ≤ 256 ∧ f ≤ b ∧ b < f + (r + n + 63) / 64
def dlg (t : HS) (dd : Nat → Prop) (i b : Nat) : Prop := ∃ f, f < 24 ∧ 64 * f < i ∧ t.1 1 f = 2 ∧ dd (64 * f) ∧ cov t f b
theorem cov_in {t : HS} {B f b : Nat} (hL : Lay t B) (hf : f < 24) (h2 : t.1 1 f = 2) (hc : cov t f b) : b < B ∧ (b = f ∨ (f < b ∧ t.1 1 b = 3)) := by
  obtain ⟨r, n, c1, c2, c3, c4, c5⟩ := hc
  obtain ⟨r', n', g1, g2, g3, g4, g5, g6⟩ := large_of hL hf h2
  have er : r' = r := (nI_eq (by omega) (by omega)).mp (g1.symm.trans c1)
  have en : n' = n := (nI_eq (by omega) (by omega)).mp (g2.symm.trans c2)
  subst er; subst en
  refine ⟨by omega, ?_⟩
  by_cases e : b = f
  · exact Or.inl e
  · exact Or.inr ⟨by omega, g6 b (by omega) c5⟩
theorem cov_uniq {t : HS} {B f f' b : Nat} (hL : Lay t B) (hf : f < 24) (h2 : t.1 1 f = 2) (hc : cov t f b) (hf' : f' < 24) (h2' : t.1 1 f' = 2) (hc' : cov t f' b) : f = f' := by
  obtain ⟨r, n, g1, g2, g3, g4, g5, g6⟩ := large_of hL hf h2
  obtain ⟨r', n', k1, k2, k3, k4, k5, k6⟩ := large_of hL hf' h2'
  obtain ⟨x, y, c1, c2, c3, c4, c5⟩ := hc
  obtain ⟨x', y', d1, d2, d3, d4, d5⟩ := hc'
  have e1 : r = x := (nI_eq (by omega) (by omega)).mp (g1.symm.trans c1)
  have e2 : n = y := (nI_eq (by omega) (by omega)).mp (g2.symm.trans c2)
  have e3 : r' = x' := (nI_eq (by omega) (by omega)).mp (k1.symm.trans d1)
  have e4 : n' = y' := (nI_eq (by omega) (by omega)).mp (k2.symm.trans d2)
  subst e1; subst e2; subst e3; subst e4
  by_cases h : f = f'
  · exact h
  · exfalso
    by_cases hl : f < f'
    · have := g6 f' hl (by omega)
      rw [h2'] at this; exact absurd this (by decide)
    · have := k6 f (by omega) (by omega)
      rw [h2] at this; exact absurd this (by decide)
/- the sweep of the reference: state at index i -/
def Jw (t : HS) (dd rc : Nat → Prop) (i : Nat) (S Bg Od : Nat → Int32) : Prop := (∀ k, k < 24 → S k = if PB (dlg t dd i k) then 0 else t.1 1 k) ∧ (∀ a, a < 1536 → Bg a = if PB (a < i ∧ dd a) then 0 else t.1 6 a) ∧ ∀ a, a < 1536 → Od a = if PB (a < i ∧ rc a) then 1 else t.1 7 a
theorem P220 {t : HS} {B : Nat} {rc : Nat → Prop} {F D : Nat → Int32} {L : Int32} (hL : Lay t B) (h01 : ∀ a, a < 64 * B → F a = 0 ∨ F a = 1) (hF : ∀ a, a < 64 * B → (F a = 1 ↔ rc a)) (hrc : ∀ a, rc a → Yg t a) : ∀ m i f S Bg Od, i + m = 64 * B → m < f → Jw t (fun a => Yg t a ∧ ¬ rc a) rc i S Bg Od → ∃ S' Bg' Od', pX5_collect_220 f (swM (mkM t F D L) S Bg Od) (nI (64 * B)) (nI (cnt (fun a => PB (Yg t a ∧ ¬ rc a)) i)) (nI i) = (bd1 (pX5_tidy (swM (mkM t F D L) S' Bg' Od')) fun c2 => some (nI (cnt (fun a => PB (Yg t a ∧ ¬ rc a)) (64 * B)), c2)) ∧ Jw t (fun a => Yg t a ∧ ¬ rc a) rc (64 * B) S' Bg' Od' := by
  have hB := hL.1.2.1
  intro m
  induction m with
  | zero =>
    intro i f S Bg Od hi hf h
    obtain ⟨f, rfl⟩ : ∃ g, f = g + 1 := ⟨f - 1, by omega⟩
    unfold pX5_collect_220
    have e : i = 64 * B := by omega
    subst e
    rw [if_pos (nI_le (by omega) (by omega))]
    exact ⟨S, Bg, Od, rfl, h⟩
  | succ m ih =>
    intro i f S Bg Od hi hf h
    obtain ⟨f, rfl⟩ : ∃ g, f = g + 1 := ⟨f - 1, by omega⟩
    unfold pX5_collect_220
    have e6 : (swM (mkM t F D L) S Bg Od).1 6 i = Bg i := rfl
    have e7 : (swM (mkM t F D L) S Bg Od).1 7 i = Od i := rfl
    have e8 : (swM (mkM t F D L) S Bg Od).1 8 i = F i := rfl
    have hBi : Bg i = t.1 6 i := by rw [h.2.1 i (by omega), PB_f (fun q => by omega), if_neg (by decide)]
    have hOi : Od i = t.1 7 i := by rw [h.2.2 i (by omega), PB_f (fun q => by omega), if_neg (by decide)]
    rw [if_neg (nI_ge (by omega) (by omega)), ldA_n (by omega) (by omega), ldA_n (by omega) (by omega), ldA_n (by omega) (by omega), e6, e7, e8, hBi, hOi, nI_1, nI_1]
    -- nothing happens at i
    have skip : ¬ (Yg t i) → ∃ S' Bg' Od', pX5_collect_220 f (swM (mkM t F D L) S Bg Od) (nI (64 * B)) (nI (cnt (fun a => PB (Yg t a ∧ ¬ rc a)) i)) (nI (i + 1)) = (bd1 (pX5_tidy (swM (mkM t F D L) S' Bg' Od')) fun c2 => some (nI (cnt (fun a => PB (Yg t a ∧ ¬ rc a)) (64 * B)), c2)) ∧ Jw t (fun a => Yg t a ∧ ¬ rc a) rc (64 * B) S' Bg' Od' := by
      intro hny
      have ih := ih (i + 1) f S Bg Od (by omega) (by omega) ⟨fun k hk => ?_, fun a ha => ?_, fun a ha => ?_⟩
      · rw [cnt_f (PB_f (fun q => hny q.1))] at ih
        exact ih
      · rw [h.1 k hk, PB_congr]
        constructor
        · rintro ⟨g, g1, g2, g3, g4, g5⟩
          exact ⟨g, g1, by omega, g3, g4, g5⟩
        · rintro ⟨g, g1, g2, g3, g4, g5⟩
          refine ⟨g, g1, ?_, g3, g4, g5⟩
          by_cases e : 64 * g = i
          · rw [e] at g4; exact absurd g4.1 hny
          · omega
      · rw [h.2.1 a ha, PB_congr]
        constructor
        · rintro ⟨q1, q2⟩; exact ⟨by omega, q2⟩
        · rintro ⟨q1, q2⟩
          refine ⟨?_, q2⟩
          by_cases e : a = i
          · subst e; exact absurd q2.1 hny
          · omega
      · rw [h.2.2 a ha, PB_congr]
        constructor
        · rintro ⟨q1, q2⟩; exact ⟨by omega, q2⟩
        · rintro ⟨q1, q2⟩
          refine ⟨?_, q2⟩
          by_cases e : a = i
          · subst e; exact absurd (hrc a q2) hny
          · omega
    rcases beg01 hL (a := i) (by omega) with h0 | h0
    · rw [if_pos h0]
      exact skip (fun hy => by have := hy.2.1; rw [h0] at this; exact absurd this (by decide))
    rw [if_neg (by rw [h0]; decide)]
    rcases (hL.2.2.1 i (by omega)).2 with h7 | h7
    case inr =>
      rw [if_neg (by rw [h7]; decide)]
      exact skip (fun hy => by have := hy.2.2; rw [h7] at this; exact absurd this (by decide))
    rw [if_pos h7]
    have hyg : Yg t i := ⟨by omega, h0, h7⟩
    rcases h01 i (by omega) with hf0 | hf0
    · -- it is gone
      have hnr : ¬ rc i := fun q => by rw [(hF i (by omega)).mpr q] at hf0; exact absurd hf0 (by decide)
      rw [if_pos hf0, stZ_n (by omega) (by omega) (Or.inl rfl), swM_6]
      obtain ⟨r, n, a1, a2, a3, a4, a5⟩ := hL.2.2.2.2.1 i (by omega) h0
      have hS : S (i / 64) = t.1 1 (i / 64) := by
        rw [h.1 (i / 64) (by omega), PB_f, if_neg (by decide)]
        rintro ⟨g, g1, g2, g3, g4, g5⟩
        rcases (cov_in hL g1 g3 g5).2 with e | ⟨e, e2⟩
        · rcases a5 with ⟨b1, -⟩ | ⟨b1, b2, -⟩
          · rw [e, g3] at b1; exact absurd b1 (by decide)
          · omega
        · rcases a5 with ⟨b1, -⟩ | ⟨b1, -⟩ <;> rw [e2] at b1 <;> exact absurd b1 (by decide)
      have hfree : ∃ S', pX5_free (swM (mkM t F D L) S (upd Bg i 0) Od) (nI i) = some (swM (mkM t F D L) S' (upd Bg i 0) Od) ∧ ∀ k, k < 24 → S' k = if PB (dlg t (fun a => Yg t a ∧ ¬ rc a) (i + 1) k) then 0 else t.1 1 k := by
        unfold pX5_free
        have e1 : (swM (mkM t F D L) S (upd Bg i 0) Od).1 1 (i / 64) = S (i / 64) := rfl
        rw [l64, pk_div (by omega) (by omega) (by omega), ldA_n (by omega) (by omega), e1, hS]
        by_cases h2 : t.1 1 (i / 64) = 2
        · rw [if_pos h2]
          rcases a5 with ⟨b1, -⟩ | ⟨-, b2, b3, b4, b5⟩
          · rw [h2] at b1; exact absurd b1 (by decide)
          have hbo : pX5_blocksOf (swM (mkM t F D L) S (upd Bg i 0) Od) (nI i) = some (nI ((r + n + 63) / 64)) := blocksOfM (t := swM (mkM t F D L) S (upd Bg i 0) Od) (by omega) a1 a2 a4
          rw [hbo, bd1_s]
          obtain ⟨S', p1, p2⟩ := free24 (s := mkM t F D L) (Bg := upd Bg i 0) (Od := Od) (b := i / 64) (nb := (r + n + 63) / 64) (by omega) ((r + n + 63) / 64) (i / 64) FU S (by omega) (FU_ge (by omega))
          refine ⟨S', p1, fun k hk => ?_⟩
          rw [p2 k]
          have hi64 : 64 * (i / 64) = i := by omega
          by_cases hc : i / 64 ≤ k ∧ k < i / 64 + (r + n + 63) / 64
          · rw [if_pos hc, PB_t, if_pos rfl]
            exact ⟨i / 64, by omega, by omega, h2, by rw [hi64]; exact ⟨hyg, hnr⟩, r, n, by rw [hi64]; exact a1, by rw [hi64]; exact a2, a4, hc.1, hc.2⟩
          · rw [if_neg hc, h.1 k hk, PB_congr]
            constructor
            · rintro ⟨g, g1, g2, g3, g4, g5⟩
              exact ⟨g, g1, by omega, g3, g4, g5⟩
            · rintro ⟨g, g1, g2, g3, g4, g5⟩
              refine ⟨g, g1, ?_, g3, g4, g5⟩
              by_cases e : 64 * g = i
              · exfalso
                obtain ⟨x, y, c1, c2, c3, c4, c5⟩ := g5
                rw [e] at c1 c2
                have er : x = r := (nI_eq (by omega) (by omega)).mp (c1.symm.trans a1)
                have en : y = n := (nI_eq (by omega) (by omega)).mp (c2.symm.trans a2)
                subst er; subst en
                exact hc ⟨by omega, by omega⟩
              · omega
        · rw [if_neg h2]
          refine ⟨S, rfl, fun k hk => ?_⟩
          rw [h.1 k hk, PB_congr]
          constructor
          · rintro ⟨g, g1, g2, g3, g4, g5⟩
            exact ⟨g, g1, by omega, g3, g4, g5⟩
          · rintro ⟨g, g1, g2, g3, g4, g5⟩
            refine ⟨g, g1, ?_, g3, g4, g5⟩
            by_cases e : 64 * g = i
            · rw [show i / 64 = g by omega, g3] at h2; exact absurd rfl h2
            · omega
      obtain ⟨S', f1, f2⟩ := hfree
      rw [f1, bd1_s]
      have ih := ih (i + 1) f S' (upd Bg i 0) Od (by omega) (by omega) ⟨f2, fun a ha => ?_, fun a ha => ?_⟩
      · rw [cnt_t (PB_t ⟨hyg, hnr⟩)] at ih
        exact ih
      · by_cases e : a = i
        · subst e
          rw [pk_us, PB_t ⟨by omega, hyg, hnr⟩, if_pos rfl]
        · rw [pk_un e, h.2.1 a ha, PB_congr]
          constructor
          · rintro ⟨q1, q2⟩; exact ⟨by omega, q2⟩
          · rintro ⟨q1, q2⟩; exact ⟨by omega, q2⟩
      · rw [h.2.2 a ha, PB_congr]
        constructor
        · rintro ⟨q1, q2⟩; exact ⟨by omega, q2⟩
        · rintro ⟨q1, q2⟩
          refine ⟨?_, q2⟩
          by_cases e : a = i
          · subst e; exact absurd q2 hnr
          · omega
    · -- it stays, and becomes old
      have hr : rc i := (hF i (by omega)).mp hf0
      rw [if_neg (by rw [hf0]; decide), stZ_n (by omega) (by omega) (Or.inr rfl), swM_7]
      have ih := ih (i + 1) f S Bg (upd Od i 1) (by omega) (by omega) ⟨fun k hk => ?_, fun a ha => ?_, fun a ha => ?_⟩
      · rw [cnt_f (PB_f (fun q => q.2 hr))] at ih
        exact ih
      · rw [h.1 k hk, PB_congr]
        constructor
        · rintro ⟨g, g1, g2, g3, g4, g5⟩
          exact ⟨g, g1, by omega, g3, g4, g5⟩
        · rintro ⟨g, g1, g2, g3, g4, g5⟩
          refine ⟨g, g1, ?_, g3, g4, g5⟩
          by_cases e : 64 * g = i
          · rw [e] at g4; exact absurd hr g4.2
          · omega
      · rw [h.2.1 a ha, PB_congr]
        constructor
        · rintro ⟨q1, q2⟩; exact ⟨by omega, q2⟩
        · rintro ⟨q1, q2⟩
          refine ⟨?_, q2⟩
          by_cases e : a = i
          · subst e; exact absurd hr q2.2
          · omega
      · by_cases e : a = i
        · subst e
          rw [pk_us, PB_t ⟨by omega, hr⟩, if_pos rfl]
        · rw [pk_un e, h.2.2 a ha, PB_congr]
          constructor
          · rintro ⟨q1, q2⟩; exact ⟨by omega, q2⟩
          · rintro ⟨q1, q2⟩; exact ⟨by omega, q2⟩
theorem jw_0 {t : HS} {dd rc : Nat → Prop} : Jw t dd rc 0 (t.1 1) (t.1 6) (t.1 7) := by
  refine ⟨fun k _ => ?_, fun a _ => ?_, fun a _ => ?_⟩
  · rw [PB_f, if_neg (by decide)]
    rintro ⟨f, -, h, -⟩
    omega
  · rw [PB_f, if_neg (by decide)]
    rintro ⟨h, -⟩
    omega
  · rw [PB_f, if_neg (by decide)]
    rintro ⟨h, -⟩
    omega
