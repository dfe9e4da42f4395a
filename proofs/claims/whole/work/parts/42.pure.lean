theorem cnt_ext {P : Nat → Bool} {n : Nat} : ∀ m, (∀ i, n ≤ i → i < n + m → P i = false) → cnt P (n + m) = cnt P n
  | 0, _ => rfl
  | m + 1, h => by
    show cnt P (n + m + 1) = cnt P n
    rw [cnt_f (h (n + m) (by omega) (by omega)), cnt_ext m (fun i h1 h2 => h i h1 (by omega))]
theorem sm_ext {g : Nat → Int32} {n : Nat} : ∀ m, (∀ i, n ≤ i → i < n + m → g i = 0) → sm g (n + m) = sm g n
  | 0, _ => rfl
  | m + 1, h => by
    show sm g (n + m) + g (n + m) = sm g n
    rw [h (n + m) (by omega) (by omega), Int32.add_zero, sm_ext m (fun i h1 h2 => h i h1 (by omega))]
theorem sm_two {f g : Nat → Int32} : ∀ n, (∀ i, i < n → f (2 * i) = g i ∧ f (2 * i + 1) = 0) → sm f (2 * n) = sm g n
  | 0, _ => rfl
  | n + 1, h => by
    have h1 := h n (by omega)
    show sm f (2 * n) + f (2 * n) + f (2 * n + 1) = sm g n + g n
    rw [h1.1, h1.2, Int32.add_zero, sm_two n (fun i hi => h i (by omega))]
def dd (t : HS) (rc : Nat → Prop) (a : Nat) : Prop := Yg t a ∧ ¬ rc a
def lv (t : HS) (rc : Nat → Prop) (a : Nat) : Prop := t.1 6 a = 1 ∧ (t.1 7 a = 1 ∨ rc a)
def gnB (t : HS) (rc : Nat → Prop) (b : Nat) : Prop := (t.1 1 b = 1 ∧ ∀ j, j < 64 → ¬ lv t rc (64 * b + j)) ∨ (∃ f, f < 24 ∧ t.1 1 f = 2 ∧ dd t rc (64 * f) ∧ cov t f b)
noncomputable def nS (t : HS) (rc : Nat → Prop) (b : Nat) : Int32 := if PB (gnB t rc b) then 0 else t.1 1 b
theorem nS_t {t : HS} {rc : Nat → Prop} {b : Nat} (h : gnB t rc b) : nS t rc b = 0 := by unfold nS; rw [PB_t h]; rfl
theorem nS_f {t : HS} {rc : Nat → Prop} {b : Nat} (h : ¬ gnB t rc b) : nS t rc b = t.1 1 b := by unfold nS; rw [PB_f h]; rfl
theorem nS_nz {t : HS} {rc : Nat → Prop} {b : Nat} (h : ¬ nS t rc b = 0) : ¬ gnB t rc b ∧ nS t rc b = t.1 1 b := by
  by_cases hg : gnB t rc b
  · exact absurd (nS_t hg) h
  · exact ⟨hg, nS_f hg⟩
theorem lv_or {t : HS} {rc : Nat → Prop} {a : Nat} (hb : ivBeg t) (ha : a < 1536) (h : t.1 6 a = 1) : (lv t rc a ∧ ¬ dd t rc a) ∨ (dd t rc a ∧ ¬ lv t rc a) := by
  rcases (hb a ha).2 with h7 | h7
  · by_cases hr : rc a
    · exact Or.inl ⟨⟨h, Or.inr hr⟩, fun q => q.2 hr⟩
    · refine Or.inr ⟨⟨⟨ha, h, h7⟩, hr⟩, fun q => ?_⟩
      rcases q.2 with q | q
      · rw [h7] at q; exact absurd q (by decide)
      · exact hr q
  · exact Or.inl ⟨⟨h, Or.inl h7⟩, fun q => by have := q.1.2.2; rw [h7] at this; exact absurd this (by decide)⟩
def MF (t t2 : HS) (rc : Nat → Prop) (B : Nat) (L : Int32) : Prop :=
  (∀ a, a < 1536 → (lv t rc a → t2.1 6 a = 1 ∧ t2.1 7 a = 1) ∧ (¬ lv t rc a → t2.1 6 a = 0) ∧ (t2.1 7 a = 0 ∨ t2.1 7 a = 1)) ∧
  (∀ k, k < 24 → t2.1 1 k = nS t rc k ∧ t2.1 3 k = 0) ∧
  (∀ k, k < B → (t2.1 4 k = 0 ∨ t2.1 4 k = 1) ∧ (t2.1 4 k = 1 ↔ (nS t rc k = 0 ∧ ∃ j q, t.1 0 1 = nI q ∧ q ≤ 24 ∧ j < q ∧ inBlk (t.1 12 j) k))) ∧
  (∀ k, B ≤ k → k < 24 → t2.1 4 k = t.1 4 k) ∧
  (t2.1 2 = t.1 2 ∧ t2.1 5 = t.1 5 ∧ t2.1 9 = t.1 9 ∧ t2.1 10 = t.1 10 ∧ t2.1 11 = t.1 11 ∧ t2.1 12 = t.1 12 ∧ t2.1 13 = t.1 13) ∧
  (t2.1 0 0 = t.1 0 0 ∧ t2.1 0 1 = t.1 0 1 ∧ t2.1 0 2 = 0 ∧ t2.1 0 3 = 0 ∧ t2.1 0 4 = t.1 0 4 ∧ t2.1 0 5 = t.1 0 5 ∧ t2.1 0 6 = t.1 0 6 ∧ t2.1 0 7 = t.1 0 7 ∧ t2.1 0 8 = t.1 0 8 ∧ t2.1 0 9 = t.1 0 9 ∧ t2.1 0 10 = t.1 0 10 ∧ t2.1 0 11 = L)
theorem collEnd {t : HS} {B : Nat} {rc : Nat → Prop} {F D : Nat → Int32} {L : Int32} (hL : Lay t B) (hsc : ivSc t) (h01 : ∀ a, a < 64 * B → F a = 0 ∨ F a = 1) (hF : ∀ a, a < 64 * B → (F a = 1 ↔ rc a)) (hrc : ∀ a, rc a → Yg t a) : ∃ t2, pX5_collect_220 FU (mkM t F D L) (nI (64 * B)) 0 0 = some (nI (cnt (fun a => PB (Yg t a ∧ ¬ rc a)) (64 * B)), t2) ∧ MF t t2 rc B L := by
  have hB := hL.1.2.1
  obtain ⟨q, hq, hd⟩ := hsc.2.2.2.2
  obtain ⟨S, Bg, Od, p1, p2, p3, p4⟩ := P220 (D := D) (L := L) hL h01 hF hrc (64 * B) 0 FU (t.1 1) (t.1 6) (t.1 7) (by omega) (FU_ge (by omega)) jw_0
  have es : swM (mkM t F D L) (t.1 1) (t.1 6) (t.1 7) = mkM t F D L := (swM_self (mkM t F D L)).symm
  rw [es, nI_0] at p1
  obtain ⟨S', Dt', Br', r1, r2⟩ := tidyM (s := swM (mkM t F D L) S Bg Od) (B := B) (q := q) hB hL.1.2.2 hq hd
  rw [r1, bd1_s] at p1
  have hlv : ∀ a, a < 1536 → (lv t rc a → Bg a = 1) ∧ (¬ lv t rc a → Bg a = 0) := by
    intro a ha
    rw [p3 a ha]
    constructor
    · intro h
      rw [PB_f, if_neg (by decide)]
      · exact h.1
      · rintro ⟨-, h2⟩
        rcases h.2 with h3 | h3
        · have := h2.1.2.2
          rw [h3] at this; exact absurd this (by decide)
        · exact h2.2 h3
    · intro h
      rcases beg01 hL ha with h0 | h0
      · split
        · rfl
        · exact h0
      · rcases lv_or (rc := rc) hL.2.2.1 ha h0 with q | q
        · exact absurd q.1 h
        · rw [PB_t ⟨th_lt hL ha h0, q.1⟩, if_pos rfl]
  have hused : ∀ b, b < 24 → (cnt (fun k => decide (¬ Bg (64 * b + k) = 0)) 64 = 0 ↔ ∀ j, j < 64 → ¬ lv t rc (64 * b + j)) := by
    intro b hb
    constructor
    · intro h j hj hl
      have := cnt_pos 64 h j hj
      rw [(hlv (64 * b + j) (by omega)).1 hl] at this
      exact absurd this (by decide)
    · intro h
      exact cnt_zero 64 (fun j hj => decide_eq_false (fun q => q ((hlv (64 * b + j) (by omega)).2 (h j hj))))
  have hdlg : ∀ k, k < 24 → (dlg t (fun a => Yg t a ∧ ¬ rc a) (64 * B) k ↔ ∃ f, f < 24 ∧ t.1 1 f = 2 ∧ dd t rc (64 * f) ∧ cov t f k) := by
    intro k hk
    constructor
    · rintro ⟨f, f1, f2, f3, f4, f5⟩
      exact ⟨f, f1, f3, f4, f5⟩
    · rintro ⟨f, f1, f3, f4, f5⟩
      exact ⟨f, f1, th_lt hL (by omega) f4.1.2.1, f3, f4, f5⟩
  have hnu : ∀ k, k < B → nuS (swM (mkM t F D L) S Bg Od) S k = nS t rc k := by
    intro k hk
    have hk24 : k < 24 := by omega
    have hu : cnt (fun j => decide (¬ (swM (mkM t F D L) S Bg Od).1 6 (64 * k + j) = 0)) 64 = 0 ↔ ∀ j, j < 64 → ¬ lv t rc (64 * k + j) := hused k hk24
    unfold nuS
    by_cases hg : dlg t (fun a => Yg t a ∧ ¬ rc a) (64 * B) k
    · have e : S k = 0 := by rw [p2 k hk24, PB_t hg]; rfl
      rw [e, if_neg (fun q => absurd q.1 (by decide)), nS_t (Or.inr ((hdlg k hk24).mp hg))]
    · have e : S k = t.1 1 k := by rw [p2 k hk24, PB_f hg]; rfl
      rw [e]
      by_cases hc : t.1 1 k = 1 ∧ ∀ j, j < 64 → ¬ lv t rc (64 * k + j)
      · rw [if_pos ⟨hc.1, hu.mpr hc.2⟩, nS_t (Or.inl hc)]
      · rw [if_neg (fun q => hc ⟨q.1, hu.mp q.2⟩), nS_f]
        rintro (q | q)
        · exact hc q
        · exact hg ((hdlg k hk24).mpr q)
  have hS1 : ∀ k, k < 24 → S' k = nS t rc k := by
    intro k hk
    by_cases hkB : k < B
    · rw [((r2 k).1 hkB).1]
      exact hnu k hkB
    · rw [((r2 k).2 hkB).1]
      show S k = nS t rc k
      have h0 := ((hL.2.1 k hk).2.1 (by omega))
      have e : S k = 0 := by rw [p2 k hk, h0]; split <;> rfl
      rw [e]
      unfold nS
      rw [h0]
      split <;> rfl
  refine ⟨_, p1, fun a ha => ⟨fun h => ⟨(hlv a ha).1 h, ?_⟩, fun h => (hlv a ha).2 h, ?_⟩, fun k hk => ⟨hS1 k hk, ?_⟩, fun k hk => ⟨((r2 k).1 hk).2.2.1, ?_⟩, fun k hk1 hk2 => ((r2 k).2 (by omega)).2.2, ⟨rfl, rfl, rfl, rfl, rfl, rfl, rfl⟩, ⟨rfl, rfl, rfl, rfl, rfl, rfl, rfl, rfl, rfl, rfl, rfl, rfl⟩⟩
  · show Od a = 1
    rw [p4 a ha]
    rcases h.2 with h3 | h3
    · split
      · rfl
      · exact h3
    · rw [PB_t ⟨th_lt hL ha h.1, h3⟩, if_pos rfl]
  · show Od a = 0 ∨ Od a = 1
    rw [p4 a ha]
    split
    · exact Or.inr rfl
    · exact (hL.2.2.1 a ha).2
  · show Dt' k = 0
    by_cases hkB : k < B
    · exact ((r2 k).1 hkB).2.1
    · rw [((r2 k).2 hkB).2.1]
      exact (hL.2.1 k hk).2.2 (by omega)
  · show Br' k = 1 ↔ _
    rw [((r2 k).1 hk).2.2.2]
    have e : nuS (swM (mkM t F D L) S Bg Od) ((swM (mkM t F D L) S Bg Od).1 1) k = nS t rc k := hnu k hk
    rw [e]
    constructor
    · rintro ⟨h1, j, h2, h3⟩
      exact ⟨h1, j, q, hd, hq, h2, h3⟩
    · rintro ⟨h1, j, q', g1, g2, h2, h3⟩
      have : q' = q := (nI_eq (by omega) (by omega)).mp (g1.symm.trans hd)
      subst this
      exact ⟨h1, j, h2, h3⟩
def CF (c c2 t : HS) (rc : Nat → Prop) (B : Nat) (lost L : Int32) : Prop :=
  (∀ k, k < 768 → (lv t rc (2 * k) → c2.1 7 k = 3) ∧ (¬ lv t rc (2 * k) → c2.1 7 k = 0)) ∧
  (∀ k, k < 24 → c2.1 1 k = nS t rc k ∧ c2.1 9 k = 0 ∧ (c2.1 2 k = if k < B ∧ nS t rc k = 0 then 0 else c.1 2 k)) ∧
  (∀ k, k < B → (c2.1 3 k = 0 ∨ c2.1 3 k = 1) ∧ (c2.1 3 k = 1 ↔ (nS t rc k = 0 ∧ ∃ j q, t.1 0 1 = nI q ∧ q ≤ 24 ∧ j < q ∧ inBlk (t.1 12 j) k))) ∧
  (∀ k, B ≤ k → k < 24 → c2.1 3 k = c.1 3 k) ∧
  (c2.1 4 = c.1 4 ∧ c2.1 5 = c.1 5 ∧ c2.1 6 = c.1 6 ∧ c2.1 8 = c.1 8 ∧ c2.1 10 = c.1 10 ∧ c2.1 11 = c.1 11) ∧
  (c2.1 0 0 = c.1 0 0 ∧ c2.1 0 1 = c.1 0 1 ∧ c2.1 0 2 = c.1 0 2 ∧ c2.1 0 3 = 0 ∧ c2.1 0 4 = 0 ∧ c2.1 0 5 = c.1 0 5 ∧ c2.1 0 7 = c.1 0 7 + lost ∧ c2.1 0 8 = c.1 0 8 ∧ c2.1 0 9 = c.1 0 9 ∧ c2.1 0 10 = L ∧ c2.1 0 11 = c.1 0 11 ∧ c2.1 0 12 = c.1 0 12 ∧ c2.1 0 13 = c.1 0 13)
theorem age_fin {c t : HS} {rc : Nat → Prop} {A : Nat → Int32} {k : Nat} (hag : smAge c t) (hrc : ∀ a, rc a → Yg t a) (hk : k < 768) (h1 : A k = 2 ↔ rc (2 * k)) (h2 : ¬ rc (2 * k) → A k = c.1 7 k) : (lv t rc (2 * k) → swp (A k) = 3) ∧ (¬ lv t rc (2 * k) → swp (A k) = 0) ∧ (A k = 1 ↔ (Yg t (2 * k) ∧ ¬ rc (2 * k))) := by
  by_cases hr : rc (2 * k)
  · have e := h1.mpr hr
    have hy := hrc _ hr
    rw [e]
    refine ⟨fun _ => by decide, fun h => absurd ⟨hy.2.1, Or.inr hr⟩ h, ⟨fun h => absurd h (by decide), fun h => absurd hr h.2⟩⟩
  · rw [h2 hr]
    rcases hag k hk with ⟨e1, e2⟩ | ⟨e1, e2, e3⟩ | ⟨e1, e2, e3⟩
    · rw [e1]
      refine ⟨fun h => ?_, fun _ => by decide, ⟨fun h => absurd h (by decide), fun h => ?_⟩⟩
      · have := h.1; rw [e2] at this; exact absurd this (by decide)
      · have := h.1.2.1; rw [e2] at this; exact absurd this (by decide)
    · rw [e1]
      refine ⟨fun h => ?_, fun _ => by decide, ⟨fun _ => ⟨⟨by omega, e2, e3⟩, hr⟩, fun _ => rfl⟩⟩
      rcases h.2 with q | q
      · rw [e3] at q; exact absurd q (by decide)
      · exact absurd q hr
    · rw [e1]
      refine ⟨fun _ => by decide, fun h => absurd ⟨e2, Or.inl e3⟩ h, ⟨fun h => absurd h (by decide), fun h => ?_⟩⟩
      have := h.1.2.2; rw [e3] at this; exact absurd this (by decide)
theorem classEnd {c t : HS} {B : Nat} {rc : Nat → Prop} {A Fd : Nat → Int32} {N L : Int32} (hb : Bs c t B) (hrc : ∀ a, rc a → Yg t a) (hbar : ∀ k, k < 24 → c.1 3 k = 0 ∨ c.1 3 k = 1) (hA : ∀ k, k < 768 → ((A k = 2 ↔ rc (2 * k)) ∧ (¬ rc (2 * k) → A k = c.1 7 k))) : ∃ c2, pX0_end (mkC c A Fd N L) = some (nI (cnt (fun a => PB (Yg t a ∧ ¬ rc a)) (64 * B)), c2) ∧ CF c c2 t rc B (nI (cnt (fun a => PB (Yg t a ∧ ¬ rc a)) (64 * B))) L := by
  obtain ⟨q, hq, hd⟩ := hb.2.1.1.2.2.2.2
  have hL := hb.1.2.1
  have hB := hL.1.2.1
  have hfin := fun k (hk : k < 768) => age_fin (A := A) hb.2.2.1 hrc hk (hA k hk).1 (hA k hk).2
  obtain ⟨A', p1, p2⟩ := sweepC (s := mkC c A Fd N L)
  have p2 : ∀ k, k < 768 → A' k = swp (A k) := p2
  have hlost : cnt (fun k => decide ((mkC c A Fd N L).1 7 k = 1)) 768 = cnt (fun a => PB (Yg t a ∧ ¬ rc a)) (64 * B) := by
    have e1 : cnt (fun a => PB (Yg t a ∧ ¬ rc a)) (64 * B) = cnt (fun k => PB (Yg t (2 * k) ∧ ¬ rc (2 * k))) (32 * B) := by
      rw [show 64 * B = 2 * (32 * B) by omega]
      refine cnt_two (32 * B) (fun i hi => ⟨rfl, PB_f (fun h => ?_)⟩)
      have := h.1.2.1
      rw [odd0 hL (by omega)] at this
      exact absurd this (by decide)
    have e2 : cnt (fun k => PB (Yg t (2 * k) ∧ ¬ rc (2 * k))) (32 * B + (768 - 32 * B)) = cnt (fun k => PB (Yg t (2 * k) ∧ ¬ rc (2 * k))) (32 * B) := cnt_ext (768 - 32 * B) (fun i h1 h2 => PB_f (fun h => by
      have := th_lt hL (by omega) h.1.2.1
      omega))
    rw [e1, ← e2, show 32 * B + (768 - 32 * B) = 768 by omega]
    refine cnt_congr 768 (fun k hk => ?_)
    show decide (A k = 1) = PB (Yg t (2 * k) ∧ ¬ rc (2 * k))
    by_cases h : A k = 1
    · rw [decide_eq_true h, PB_t ((hfin k hk).2.2.mp h)]
    · rw [decide_eq_false h, PB_f (fun g => h ((hfin k hk).2.2.mpr g))]
  rw [hlost] at p1
  generalize hlo : nI (cnt (fun a => PB (Yg t a ∧ ¬ rc a)) (64 * B)) = lost at p1 ⊢
  obtain ⟨s6, hs6⟩ : ∃ s6, s6 = hfill (hs (hs (hs (r7 (mkC c A Fd N L) A') 0 7 (c.1 0 7 + lost)) 0 3 0) 0 4 0) 9 24 0 := ⟨_, rfl⟩
  have e67 : s6.1 7 = A' := by rw [hs6]; rfl
  have hage : ∀ k, k < 768 → (lv t rc (2 * k) → A' k = 3) ∧ (¬ lv t rc (2 * k) → A' k = 0) := fun k hk => by
    rw [p2 k hk]
    exact ⟨(hfin k hk).1, (hfin k hk).2.1⟩
  have hodd : ∀ k, 2 * k + 1 < 1536 → ¬ lv t rc (2 * k + 1) := fun k hk h => by
    have := h.1
    rw [odd0 hL hk] at this
    exact absurd this (by decide)
  have htin : ∀ b, b < 24 → (tin s6 b = 0 ↔ ∀ j, j < 64 → ¬ lv t rc (64 * b + j)) := by
    intro b hb4
    unfold tin
    rw [e67]
    constructor
    · intro h j hj hl
      by_cases ho : j % 2 = 0
      · have h1 := cnt_pos 32 h (j / 2) (by omega)
        have h2 := (hage (b * 32 + j / 2) (by omega)).1 (by rw [show 2 * (b * 32 + j / 2) = 64 * b + j by omega]; exact hl)
        rw [h2] at h1
        exact absurd h1 (by decide)
      · exact hodd (32 * b + j / 2) (by omega) (by rw [show 2 * (32 * b + j / 2) + 1 = 64 * b + j by omega]; exact hl)
    · intro h
      refine cnt_zero 32 (fun j hj => decide_eq_false (fun g => g ?_))
      rw [(hage (b * 32 + j) (by omega)).2 (by rw [show 2 * (b * 32 + j) = 64 * b + 2 * j by omega]; exact h (2 * j) (by omega))]
      decide
  have hFE := FE2 (s := s6) (B := B) (S0 := t.1 1) (nS := nS t rc) hB (by rw [hs6]; exact hb.1.1.2.2.1)
    (fun b hb4 h0 => (htin b (by omega)).mpr (fun j hj hl => by
      have := hl.1
      rw [nobeg hL (by omega) (Or.inl (by rw [show (64 * b + j) / 64 = b by omega]; exact h0))] at this
      exact absurd this (by decide)))
    (fun b hb4 hc => by
      have hb24 : b < 24 := by omega
      rcases (hL.2.1 b hb24).1 with e | e | e | e
      · have hz : nS t rc b = 0 := by unfold nS; rw [e]; split <;> rfl
        exact ⟨fun _ => hz, fun _ => by rw [hz, e]⟩
      · refine ⟨fun h => nS_t (Or.inl ⟨e, (htin b hb24).mp h⟩), fun h => nS_f ?_⟩
        rintro (g | ⟨f, f1, f2, f3, f4⟩)
        · exact h ((htin b hb24).mpr g.2)
        · rcases (cov_in hL f1 f2 f4).2 with g | ⟨-, g⟩
          · rw [g, f2] at e; exact absurd e (by decide)
          · rw [g] at e; exact absurd e (by decide)
      · have hbg := hL.2.2.2.2.2.2.1 b hb24 e
        obtain ⟨r, n, g1, g2, g3, g4, g5, g6⟩ := large_of hL hb24 e
        have hcv : cov t b b := ⟨r, n, g1, g2, g4, Nat.le_refl b, by omega⟩
        rcases lv_or (rc := rc) hL.2.2.1 (by omega) hbg with w | w
        · refine ⟨fun h => ?_, fun h => nS_f ?_⟩
          · have := (htin b hb24).mp h 0 (by omega)
            rw [Nat.add_zero] at this
            exact absurd w.1 this
          · rintro (g | ⟨f, f1, f2, f3, f4⟩)
            · rw [e] at g; exact absurd g.1 (by decide)
            · have := cov_uniq hL f1 f2 f4 hb24 e hcv
              subst this
              exact w.2 f3
        · refine ⟨fun h => nS_t (Or.inr ⟨b, hb24, e, w.1, hcv⟩), fun h => absurd ((htin b hb24).mpr (fun j hj hl => ?_)) h⟩
          obtain ⟨r', n', k1, k2, k3, k4, k5⟩ := hL.2.2.2.2.1 (64 * b + j) (by omega) hl.1
          rcases k5 with ⟨q1, -⟩ | ⟨q1, q2, -⟩
          · rw [show (64 * b + j) / 64 = b by omega, e] at q1; exact absurd q1 (by decide)
          · have : j = 0 := by omega
            subst this
            exact w.2 hl
      · rcases hc with hc | hc
        · obtain ⟨f, r, n, f1, -⟩ := behind_of hL hb24 e
          omega
        · exact absurd e hc)
    (fun b hb4 hb0 h3 => by
      have hb24 : b < 24 := by omega
      obtain ⟨f, r, n, f1, f2, f3, f4, f5, f6, f7, f8⟩ := behind_of hL hb24 h3
      have hbg := hL.2.2.2.2.2.2.1 f (by omega) f2
      have hcb : cov t f b := ⟨r, n, f3, f4, f5, by omega, f6⟩
      have hcb1 : cov t f (b - 1) := ⟨r, n, f3, f4, f5, by omega, by omega⟩
      rcases lv_or (rc := rc) hL.2.2.1 (by omega) hbg with w | w
      · have hng : ∀ k, cov t f k → (t.1 1 k = 2 ∨ t.1 1 k = 3) → ¬ gnB t rc k := by
          rintro k hck h23 (g | ⟨f', g1, g2, g3, g4⟩)
          · rw [g.1] at h23; exact absurd h23 (by decide)
          · have := cov_uniq hL g1 g2 g4 (by omega) f2 hck
            subst this
            exact w.2 g3
        have h23 : t.1 1 (b - 1) = 2 ∨ t.1 1 (b - 1) = 3 := by
          rcases (cov_in hL (by omega) f2 hcb1).2 with g | ⟨-, g⟩
          · rw [g]; exact Or.inl f2
          · exact Or.inr g
        refine ⟨fun h => ?_, fun _ => nS_f (hng b hcb (Or.inr h3))⟩
        rw [nS_f (hng (b - 1) hcb1 h23)] at h
        rw [h] at h23
        exact absurd h23 (by decide)
      · exact ⟨fun _ => nS_t (Or.inr ⟨f, by omega, f2, w.1, hcb⟩), fun h => absurd (nS_t (Or.inr ⟨f, by omega, f2, w.1, hcb1⟩)) h⟩)
    B 0 FU (s6.1 1) (s6.1 2) (s6.1 3) (by omega) (FU_ge (by omega)) (fun k hk => by
      rw [if_neg (by omega), hs6]
      exact hb.1.2.2.1 k hk)
  obtain ⟨S', Dl', Br0, r1, r2, r3'⟩ := hFE
  rw [← f3_self s6, nI_0] at r1
  have e3 : ∀ k, ¬ k < B → Br0 k = c.1 3 k := fun k hk => by
    rw [((r3' k).2 (by omega)).2, hs6]
    rfl
  obtain ⟨Br', b1, b2, b3⟩ := barC (s := f3 s6 S' Dl' Br0) (B := B) (q := q) hB (by rw [hs6]; exact hb.1.1.2.2.1) (by rw [hs6]; exact hb.1.1.2.2.2) hq (fun k hk1 hk2 => by
    show Br0 k = 0 ∨ Br0 k = 1
    rw [e3 k (by omega)]
    exact hbar k hk2)
  have hS1 : ∀ k, k < 24 → S' k = nS t rc k := by
    intro k hk
    rw [r2 k hk]
    by_cases hkB : k < B
    · rw [if_pos hkB]
    · rw [if_neg hkB]
      have h0 := (hL.2.1 k hk).2.1 (by omega)
      unfold nS
      rw [h0]
      split <;> rfl
  have h5 : (f3 s6 S' Dl' Br0).1 0 5 = nI q := by rw [hs6]; exact hb.2.2.2.2.2.trans hd
  refine ⟨r3 (f3 s6 S' Dl' Br0) Br', ?_, fun k hk => ?_, fun k hk => ⟨hS1 k hk, ?_, ?_⟩, fun k hk => ⟨(b2 k hk).1, ?_⟩, fun k hk1 hk2 => ?_, ?_, ?_⟩
  · unfold pX0_end
    rw [p1, bd2_s]
    unfold pfA
    have e7 : (r7 (mkC c A Fd N L) A').1 0 7 = c.1 0 7 := rfl
    rw [e7]
    show bd1 (pX2_forget (hs (r7 (mkC c A Fd N L) A') 0 7 (c.1 0 7 + lost))) (fun c6 => bd1 (pX3_freeEmptyBlocks c6) fun c8 => bd1 (pX3_barBy c8 (c8.1 0 5)) fun c10 => some (lost, c10)) = _
    rw [forget_n, bd1_s, ← hs6]
    unfold pX3_freeEmptyBlocks
    rw [r1, bd1_s, h5, b1, bd1_s]
  · show (lv t rc (2 * k) → s6.1 7 k = 3) ∧ (¬ lv t rc (2 * k) → s6.1 7 k = 0)
    rw [e67]
    exact hage k hk
  · show s6.1 9 k = 0
    rw [hs6]
    exact hf_lt (k := 9) (v := 0) hk
  · show Dl' k = _
    by_cases hkB : k < B
    · rw [(r3' k).1 (by omega)]
      have e2 : s6.1 2 k = c.1 2 k := by rw [hs6]; rfl
      rw [e2]
      by_cases hz : nS t rc k = 0
      · rw [if_pos hz, if_pos ⟨hkB, hz⟩]
      · rw [if_neg hz, if_neg (fun g => hz g.2)]
    · rw [((r3' k).2 (by omega)).1, if_neg (fun g => hkB g.1), hs6]
      rfl
  · show Br' k = 1 ↔ _
    rw [(b2 k hk).2]
    have e1 : (f3 s6 S' Dl' Br0).1 1 k = nS t rc k := hS1 k (by omega)
    rw [e1]
    have e11 : ∀ j, j < 24 → (f3 s6 S' Dl' Br0).1 11 j = t.1 12 j := fun j hj => by
      rw [hs6]
      exact hb.2.2.2.2.1 j hj
    constructor
    · rintro ⟨h1, j, h2, h3⟩
      rw [e11 j (by omega)] at h3
      exact ⟨h1, j, q, hd, hq, h2, h3⟩
    · rintro ⟨h1, j, q', g1, g2, h2, h3⟩
      have : q' = q := (nI_eq (by omega) (by omega)).mp (g1.symm.trans hd)
      subst this
      exact ⟨h1, j, h2, by rw [e11 j (by omega)]; exact h3⟩
  · show Br' k = c.1 3 k
    rw [b3 k hk1 hk2]
    exact e3 k (by omega)
  · rw [hs6]
    exact ⟨rfl, rfl, rfl, rfl, rfl, rfl⟩
  · rw [hs6]
    exact ⟨rfl, rfl, rfl, rfl, rfl, rfl, rfl, rfl, rfl, rfl, rfl, rfl, rfl⟩
