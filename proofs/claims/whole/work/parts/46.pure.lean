def f124 (s : HS) (S Cl Br : Nat → Int32) : HS := (fun k => if k = 1 then S else if k = 2 then Cl else if k = 4 then Br else s.1 k, s.2)
theorem f124_w (s : HS) (S Cl Br : Nat → Int32) (i : Nat) (u v w : Int32) : hs (hs (hs (f124 s S Cl Br) 1 i u) 2 i v) 4 i w = f124 s (upd S i u) (upd Cl i v) (upd Br i w) := by
  refine hs_ext (fun k j => ?_) rfl
  by_cases h3 : k = 4
  · subst h3; rw [hs_eq, hs_nk (by decide), hs_nk (by decide)]; rfl
  · rw [hs_nk h3]
    by_cases h2 : k = 2
    · subst h2; rw [hs_eq, hs_nk (by decide)]; rfl
    · rw [hs_nk h2]
      by_cases h1 : k = 1
      · subst h1; rw [hs_eq]; rfl
      · rw [hs_nk h1]; simp [f124, h1, h2, h3]
theorem f124_self (s : HS) : s = f124 s (s.1 1) (s.1 2) (s.1 4) := by
  refine hs_ext (fun k j => ?_) rfl
  by_cases h1 : k = 1
  · subst h1; rfl
  · by_cases h2 : k = 2
    · subst h2; rfl
    · by_cases h3 : k = 4
      · subst h3; rfl
      · simp [f124, h1, h2, h3]
theorem L77 {t : HS} {b len : Nat} (hb : b + len ≤ 24) : ∀ m j f S Cl Br, b ≤ j → j + m = b + len → m < f → ∃ S' Cl' Br', pX5_large_77 f (f124 t S Cl Br) (nI len) (nI b) (nI j) = some (nI (64 * b), f124 t S' Cl' Br') ∧ ∀ k, (j ≤ k ∧ k < b + len → S' k = (if k = b then 2 else 3) ∧ Br' k = 0) ∧ (¬ (j ≤ k ∧ k < b + len) → S' k = S k ∧ Cl' k = Cl k ∧ Br' k = Br k) := by
  intro m
  induction m with
  | zero =>
    intro j f S Cl Br hbj hj hf
    obtain ⟨f, rfl⟩ : ∃ g, f = g + 1 := ⟨f - 1, by omega⟩
    unfold pX5_large_77
    rw [nI_add, if_pos (nI_le (by omega) (by omega)), l64, pk_mul]
    exact ⟨S, Cl, Br, rfl, fun k => ⟨fun h => by omega, fun _ => ⟨rfl, rfl, rfl⟩⟩⟩
  | succ m ih =>
    intro j f S Cl Br hbj hj hf
    obtain ⟨f, rfl⟩ : ∃ g, f = g + 1 := ⟨f - 1, by omega⟩
    unfold pX5_large_77 pX5_large_104
    rw [nI_add, if_neg (nI_ge (by omega) (by omega))]
    have step : ∀ v : Int32, (v = if j = b then 2 else 3) → ∃ S' Cl' Br', (stA (f124 t S Cl Br) 1 24 (nI j) v fun c1 => stA c1 2 24 (nI j) 5 fun c3 => stZ c3 4 24 (nI j) 0 fun c5 => pX5_large_77 f c5 (nI len) (nI b) (nI j + 1)) = some (nI (64 * b), f124 t S' Cl' Br') ∧ ∀ k, (j ≤ k ∧ k < b + len → S' k = (if k = b then 2 else 3) ∧ Br' k = 0) ∧ (¬ (j ≤ k ∧ k < b + len) → S' k = S k ∧ Cl' k = Cl k ∧ Br' k = Br k) := by
      intro v hv
      rw [stA_n (by omega) (by omega), stA_n (by omega) (by omega), stZ_n (by omega) (by omega) (Or.inl rfl), f124_w, nI_1]
      obtain ⟨S', Cl', Br', p1, p2⟩ := ih (j + 1) f (upd S j v) (upd Cl j 5) (upd Br j 0) (by omega) (by omega) (by omega)
      refine ⟨S', Cl', Br', p1, fun k => ⟨fun hk => ?_, fun hk => ?_⟩⟩
      · by_cases hkj : k = j
        · subst hkj
          obtain ⟨x1, x2, x3⟩ := (p2 k).2 (by omega)
          rw [x1, x3, pk_us, pk_us]
          exact ⟨hv, rfl⟩
        · exact (p2 k).1 (by omega)
      · obtain ⟨x1, x2, x3⟩ := (p2 k).2 (by omega)
        rw [x1, x2, x3, pk_un (by omega), pk_un (by omega), pk_un (by omega)]
        exact ⟨rfl, rfl, rfl⟩
    by_cases hjb : j = b
    · rw [if_pos (show nI j = nI b by rw [hjb])]
      exact step 2 (by rw [if_pos hjb])
    · rw [if_neg (by rw [nI_eq (by omega) (by omega)]; exact hjb)]
      exact step 3 (by rw [if_neg hjb])
/- the blocks of a new thing of s words at a -/
def isNew (s a : Nat) (fr : Bool) (k : Nat) : Prop := fr = true ∧ ((kcl s ≤ 4 ∧ k = a / 64) ∨ (kcl s = 5 ∧ a / 64 ≤ k ∧ k < a / 64 + (s + 63) / 64))
def NB (t : HS) (B s a : Nat) (fr : Bool) (S Cl Br : Nat → Int32) : Prop :=
  a < 64 * B ∧ t.1 6 a = 0 ∧ (∀ k, isNew s a fr k → k < B ∧ t.1 1 k = 0 ∧ Br k = 0 ∧ S k = (if kcl s = 5 then (if k = a / 64 then 2 else 3) else 1)) ∧ (∀ k, k < 24 → ¬ isNew s a fr k → S k = t.1 1 k ∧ Cl k = t.1 2 k ∧ Br k = t.1 4 k) ∧
  (kcl s ≤ 4 → S (a / 64) = 1 ∧ Cl (a / 64) = nI (kcl s) ∧ a % 2 ^ (kcl s + 1) = 0) ∧ (kcl s = 5 → fr = true ∧ a % 64 = 0 ∧ a / 64 + (s + 63) / 64 ≤ B) ∧ (fr = true → t.1 1 (a / 64) = 0 ∧ a % 64 = 0) ∧ (fr = false → t.1 1 (a / 64) = 1)
theorem place_main {c t : HS} {B s : Nat} {mi : Int32} (hS : Sim c t B) (hI : Inv t B) (h1 : 1 ≤ s) (h256 : s ≤ 256) : (pX3_placeFor c (nI s) mi = some (-1) ∧ pX5_place t (nI s) mi = some (-1, t)) ∨ ∃ a fr S Cl Br, pX3_placeFor c (nI s) mi = some (nI a) ∧ pX5_place t (nI s) mi = some (nI a, f124 t S Cl Br) ∧ NB t B s a fr S Cl Br := by
  have hG := geo_of hS hI
  have hw := hS.1
  have hB := hw.2.1
  have hL := hI.1
  have hsb : ∀ b, b < 24 → c.1 1 b = t.1 1 b ∧ c.1 3 b = t.1 4 b := fun b hb => ⟨(hS.2.2.2.1 b hb).1, (hS.2.2.2.1 b hb).2.1⟩
  have h01 : ∀ b, b < 24 → t.1 4 b = 0 ∨ t.1 4 b = 1 := fun b hb => (hL.2.2.2.1 b hb).2
  have hkl := kcl_le s
  unfold pX3_placeFor pX5_place
  rw [classFor_n h256, classOf_n h256, bd1_s, bd1_s, l5]
  by_cases h5 : kcl s = 5
  · rw [h5, if_pos rfl, if_pos rfl, blocksFor_n h256]
    have hlen1 : 1 ≤ (s + 63) / 64 := by omega
    have hlen4 : (s + 63) / 64 ≤ 4 := by omega
    have eM : pX5_large t (nI s) mi = pX5_large_13 FU t mi (nI ((s + 63) / 64)) 0 := by
      unfold pX5_large
      rw [l64, nI_add, l1, pk_sub (by omega), pk_div (by omega) (by omega) (by omega)]
      rfl
    have hc := freeRow_n (mi := mi) hw hsb h01 hlen1 hlen4
    have hm := L13 (mi := mi) hL.1 hlen1 hlen4 B 0 FU (by omega) (FU_ge (by omega)) (fun s' hs' => by omega)
    rw [nI_0] at hm
    rw [eM]
    rcases hc with ⟨b, b1, b2⟩ | ⟨b1, b2⟩
    · rcases hm with ⟨b', g1, g2⟩ | ⟨g1, g2⟩
      · have := least_uniq b1 g1
        subst this
        obtain ⟨S', Cl', Br', p1, p2⟩ := L77 (t := t) (b := b) (len := (s + 63) / 64) (by have := b1.1; omega) ((s + 63) / 64) b FU (t.1 1) (t.1 2) (t.1 4) (Nat.le_refl b) (by omega) (FU_ge (by omega))
        rw [← f124_self t] at p1
        rw [b2, bd1_s, g2, p1, bd2_s]
        have hb1 := b1.1
        have hbz : t.1 1 b = 0 := (b1.2.1 b (Nat.le_refl b) (by omega)).1
        refine Or.inr ⟨64 * b, true, S', Cl', Br', rfl, rfl, by omega, nobeg hL (by omega) (Or.inl (by rw [show 64 * b / 64 = b by omega]; exact hbz)), ?_, ?_, fun h => by omega, fun _ => ⟨rfl, by omega, by rw [show 64 * b / 64 = b by omega]; exact hb1⟩, fun _ => ⟨by rw [show 64 * b / 64 = b by omega]; exact hbz, by omega⟩, fun h => absurd h (by decide)⟩
        · rintro k ⟨-, ⟨q, -⟩ | ⟨-, q1, q2⟩⟩
          · omega
          · rw [show 64 * b / 64 = b by omega] at q1 q2 ⊢
            obtain ⟨x1, x2⟩ := (p2 k).1 ⟨q1, q2⟩
            rw [if_pos h5]
            exact ⟨by omega, (b1.2.1 k q1 q2).1, x2, x1⟩
        · intro k hk hn
          refine (p2 k).2 (fun q => hn ⟨rfl, Or.inr ⟨h5, ?_, ?_⟩⟩)
          · rw [show 64 * b / 64 = b by omega]; exact q.1
          · rw [show 64 * b / 64 = b by omega]; exact q.2
      · exact absurd b1.2.1 (g1 b b1.1)
    · rcases hm with ⟨b', g1, g2⟩ | ⟨g1, g2⟩
      · exact absurd g1.2.1 (b1 b' g1.1)
      · rw [b2, bd1_s, g2, bd2_s]
        exact Or.inl ⟨rfl, rfl⟩
  · have hk4 : kcl s ≤ 4 := by omega
    rw [if_neg (by rw [nI_eq (by omega) (by omega)]; exact h5), if_neg (by rw [nI_eq (by omega) (by omega)]; exact h5)]
    have hcell := FC2 (mi := mi) hG hk4 B 0 FU FU (by omega) (FU_ge (by omega)) (FU_ge (by omega))
    rw [nI_0] at hcell
    have eC : pX3_freeCell c (nI (kcl s)) = pX3_freeCell_2 c FU (nI (kcl s)) 0 := rfl
    have eM : pX5_small t (nI (kcl s)) mi = pX5_small_2 FU t (nI (kcl s)) mi 0 := rfl
    rw [eC, eM]
    rcases hcell with ⟨a, ⟨f1, f2, f3, f4, f5⟩, g2, g3⟩ | ⟨g2, g3⟩
    · rw [g2, g3, bd1_s, bd2_s, if_neg (fun e => neg1 (a := a) (by omega) e.symm)]
      refine Or.inr ⟨a, false, t.1 1, t.1 2, t.1 4, rfl, by rw [← f124_self t], f1, f5, fun k h => absurd h.1 (by decide), fun k _ _ => ⟨rfl, rfl, rfl⟩, fun _ => ⟨f2, f3, f4⟩, fun h => absurd h h5, fun h => absurd h (by decide), fun _ => f2⟩
    · rw [g2, g3, bd1_s, if_pos rfl]
      have hc := freeRow_n (mi := mi) hw hsb h01 (len := 1) (by omega) (by omega)
      have hm := S81 (mi := mi) (k := nI (kcl s)) hL.1 B 0 FU (by omega) (FU_ge (by omega)) (fun s' hs' => by omega)
      rw [nI_0] at hm
      rw [← l1] at hc
      rcases hc with ⟨b, b1, b2⟩ | ⟨b1, b2⟩
      · rcases hm with ⟨b', g1, g4⟩ | ⟨g1, g4⟩
        · have := least_uniq b1 g1
          subst this
          have hb1 := b1.1
          have hbz : t.1 1 b = 0 := (b1.2.1 b (Nat.le_refl b) (by omega)).1
          rw [b2, bd1_s, g4, bd2_s]
          have e : hs (hs (hs t 1 b 1) 2 b (nI (kcl s))) 4 b 0 = f124 t (upd (t.1 1) b 1) (upd (t.1 2) b (nI (kcl s))) (upd (t.1 4) b 0) := by
            have := f124_w t (t.1 1) (t.1 2) (t.1 4) b 1 (nI (kcl s)) 0
            rw [← f124_self t] at this
            exact this
          have eb : 64 * b / 64 = b := by omega
          refine Or.inr ⟨64 * b, true, _, _, _, rfl, by rw [e], by omega, nobeg hL (by omega) (Or.inl (by rw [eb]; exact hbz)), ?_, ?_, fun _ => ⟨by rw [eb]; exact pk_us, by rw [eb]; exact pk_us, ?_⟩, fun h => absurd h h5, fun _ => ⟨by rw [eb]; exact hbz, by omega⟩, fun h => absurd h (by decide)⟩
          · rintro k ⟨-, ⟨-, q⟩ | ⟨q, -⟩⟩
            · rw [eb] at q
              subst q
              rw [if_neg h5, pk_us, pk_us]
              exact ⟨by omega, hbz, rfl, rfl⟩
            · exact absurd q h5
          · intro k hk hn
            have hkb : k ≠ b := fun q => hn ⟨rfl, Or.inl ⟨hk4, by rw [eb]; exact q⟩⟩
            rw [pk_un hkb, pk_un hkb, pk_un hkb]
            exact ⟨rfl, rfl, rfl⟩
          · rcases pow5 hk4 with ⟨-, e⟩ | ⟨-, e⟩ | ⟨-, e⟩ | ⟨-, e⟩ | ⟨-, e⟩ <;> rw [e] <;> omega
        · exact absurd b1.2.1 (g1 b b1.1)
      · rcases hm with ⟨b', g1, g4⟩ | ⟨g1, g4⟩
        · exact absurd g1.2.1 (b1 b' g1.1)
        · rw [b2, bd1_s, g4, bd2_s]
          exact Or.inl ⟨rfl, rfl⟩
theorem T35 {c : HS} {b len : Nat} (hb : b + len ≤ 24) : ∀ m j f S Dl Br, 1 ≤ j → j + m = len → m < f → ∃ S' Dl' Br', pX3_take_35 f (f3 c S Dl Br) (nI b) (nI len) (nI j) = some (f3 c S' Dl' Br') ∧ ∀ k, (b + j ≤ k ∧ k < b + len → S' k = 3 ∧ Dl' k = 0 ∧ Br' k = 0) ∧ (¬ (b + j ≤ k ∧ k < b + len) → S' k = S k ∧ Dl' k = Dl k ∧ Br' k = Br k) := by
  intro m
  induction m with
  | zero =>
    intro j f S Dl Br h1 hj hf
    obtain ⟨f, rfl⟩ : ∃ g, f = g + 1 := ⟨f - 1, by omega⟩
    unfold pX3_take_35
    rw [if_pos (nI_le (by omega) (by omega))]
    exact ⟨S, Dl, Br, rfl, fun k => ⟨fun h => by omega, fun _ => ⟨rfl, rfl, rfl⟩⟩⟩
  | succ m ih =>
    intro j f S Dl Br h1 hj hf
    obtain ⟨f, rfl⟩ : ∃ g, f = g + 1 := ⟨f - 1, by omega⟩
    unfold pX3_take_35
    rw [if_neg (nI_ge (by omega) (by omega)), nI_add, turn_n 3 0 (by omega), bd1_s, f3_123, nI_1]
    obtain ⟨S', Dl', Br', p1, p2⟩ := ih (j + 1) f (upd S (b + j) 3) (upd Dl (b + j) 0) (upd Br (b + j) 0) (by omega) (by omega) (by omega)
    refine ⟨S', Dl', Br', p1, fun k => ⟨fun hk => ?_, fun hk => ?_⟩⟩
    · by_cases hkj : k = b + j
      · subst hkj
        obtain ⟨x1, x2, x3⟩ := (p2 (b + j)).2 (by omega)
        rw [x1, x2, x3, pk_us, pk_us, pk_us]
        exact ⟨rfl, rfl, rfl⟩
      · exact (p2 k).1 (by omega)
    · obtain ⟨x1, x2, x3⟩ := (p2 k).2 (by omega)
      rw [x1, x2, x3, pk_un (by omega), pk_un (by omega), pk_un (by omega)]
      exact ⟨rfl, rfl, rfl⟩
theorem takeC {c : HS} {b s : Nat} (hb : b < 24) (h1 : 1 ≤ s) (h256 : s ≤ 256) (hl : kcl s = 5 → b + (s + 63) / 64 ≤ 24) : ∃ S' Dl' Br', pX3_take c (nI b) (nI s) = some (f3 c S' Dl' Br') ∧ ∀ k, (isNew s (64 * b) true k → S' k = (if kcl s = 5 then (if k = b then 2 else 3) else 1) ∧ Dl' k = (if kcl s = 5 then (if k = b then nI ((s + 63) / 64) else 0) else nI (kcl s)) ∧ Br' k = 0) ∧ (¬ isNew s (64 * b) true k → S' k = c.1 1 k ∧ Dl' k = c.1 2 k ∧ Br' k = c.1 3 k) := by
  have hkl := kcl_le s
  have eb : 64 * b / 64 = b := by omega
  unfold pX3_take
  rw [classFor_n h256, bd1_s, l5]
  by_cases h5 : kcl s = 5
  · rw [h5, if_pos rfl, blocksFor_n h256, turn_n _ _ hb, bd1_s]
    have e := f3_123 c (c.1 1) (c.1 2) (c.1 3) b 2 (nI ((s + 63) / 64)) 0
    rw [← f3_self c] at e
    rw [e]
    have hl := hl h5
    obtain ⟨S', Dl', Br', p1, p2⟩ := T35 (c := c) (b := b) (len := (s + 63) / 64) hl ((s + 63) / 64 - 1) 1 FU (upd (c.1 1) b 2) (upd (c.1 2) b (nI ((s + 63) / 64))) (upd (c.1 3) b 0) (by omega) (by omega) (FU_ge (by omega))
    rw [← l1] at p1
    refine ⟨S', Dl', Br', p1, fun k => ⟨?_, fun hn => ?_⟩⟩
    · rintro ⟨-, ⟨q, -⟩ | ⟨-, q1, q2⟩⟩
      · omega
      · rw [eb] at q1 q2
        rw [if_pos rfl, if_pos rfl]
        by_cases hkb : k = b
        · subst hkb
          obtain ⟨x1, x2, x3⟩ := (p2 k).2 (by omega)
          rw [x1, x2, x3, pk_us, pk_us, pk_us, if_pos rfl, if_pos rfl]
          exact ⟨rfl, rfl, rfl⟩
        · rw [if_neg hkb, if_neg hkb]
          exact (p2 k).1 (by omega)
    · have hout : ¬ (b ≤ k ∧ k < b + (s + 63) / 64) := fun q => hn ⟨rfl, Or.inr ⟨h5, by rw [eb]; exact q.1, by rw [eb]; exact q.2⟩⟩
      obtain ⟨x1, x2, x3⟩ := (p2 k).2 (by omega)
      have hkb : k ≠ b := by omega
      rw [x1, x2, x3, pk_un hkb, pk_un hkb, pk_un hkb]
      exact ⟨rfl, rfl, rfl⟩
  · have hk4 : kcl s ≤ 4 := by omega
    rw [if_neg (by rw [nI_eq (by omega) (by omega)]; exact h5), turn_n _ _ hb, bd1_s]
    have e := f3_123 c (c.1 1) (c.1 2) (c.1 3) b 1 (nI (kcl s)) 0
    rw [← f3_self c] at e
    rw [e]
    refine ⟨_, _, _, rfl, fun k => ⟨?_, fun hn => ?_⟩⟩
    · rintro ⟨-, ⟨-, q⟩ | ⟨q, -⟩⟩
      · rw [eb] at q
        subst q
        rw [if_neg h5, if_neg h5, pk_us, pk_us, pk_us]
        exact ⟨rfl, rfl, rfl⟩
      · exact absurd q h5
    · have hkb : k ≠ b := fun q => hn ⟨rfl, Or.inl ⟨hk4, by rw [eb]; exact q⟩⟩
      rw [pk_un hkb, pk_un hkb, pk_un hkb]
      exact ⟨rfl, rfl, rfl⟩
def r4 (s : HS) (A : Nat → Int32) : HS := (fun k => if k = 4 then A else s.1 k, s.2)
def r5 (s : HS) (A : Nat → Int32) : HS := (fun k => if k = 5 then A else s.1 k, s.2)
theorem r4_4 (s : HS) (A : Nat → Int32) (i : Nat) (v : Int32) : hs (r4 s A) 4 i v = r4 s (upd A i v) := by
  refine hs_ext (fun k j => ?_) rfl
  by_cases h : k = 4
  · subst h; rw [hs_eq]; rfl
  · rw [hs_nk h]; simp [r4, h]
theorem r5_5 (s : HS) (A : Nat → Int32) (i : Nat) (v : Int32) : hs (r5 s A) 5 i v = r5 s (upd A i v) := by
  refine hs_ext (fun k j => ?_) rfl
  by_cases h : k = 5
  · subst h; rw [hs_eq]; rfl
  · rw [hs_nk h]; simp [r5, h]
theorem r4_self (s : HS) : s = r4 s (s.1 4) := by
  refine hs_ext (fun k j => ?_) rfl
  by_cases h : k = 4
  · subst h; rfl
  · simp [r4, h]
theorem r5_self (s : HS) : s = r5 s (s.1 5) := by
  refine hs_ext (fun k j => ?_) rfl
  by_cases h : k = 5
  · subst h; rfl
  · simp [r5, h]
def wfil (A : Nat → Int32) (a r n : Nat) (i : Nat) (k : Nat) : Int32 := if a + i ≤ k ∧ k < a + (r + n) then (if k < a + r then -1 else 0) else A k
theorem lay55 {c : HS} {a r n : Nat} (hs' : r + n ≤ 256) (he : a + (r + n) ≤ 1536) : ∀ m i f A, i + m = r + n → m < f → ∃ A', pX3_lay_55 f (r4 c A) (nI a) (nI r) (nI n) (nI i) = some (r4 c A') ∧ ∀ k, A' k = wfil A a r n i k := by
  intro m
  induction m with
  | zero =>
    intro i f A hi hf
    obtain ⟨f, rfl⟩ : ∃ g, f = g + 1 := ⟨f - 1, by omega⟩
    unfold pX3_lay_55
    rw [nI_add, if_pos (nI_le (by omega) (by omega))]
    exact ⟨A, rfl, fun k => (if_neg (by omega)).symm⟩
  | succ m ih =>
    intro i f A hi hf
    obtain ⟨f, rfl⟩ : ∃ g, f = g + 1 := ⟨f - 1, by omega⟩
    unfold pX3_lay_55
    rw [nI_add, if_neg (nI_ge (by omega) (by omega)), nI_add, stA_n (by omega) (by omega), stA_n (by omega) (by omega), r4_4, r4_4, nI_1]
    have fin : ∀ v : Int32, (v = if i < r then -1 else 0) → ∃ A', pX3_lay_55 f (r4 c (upd A (a + i) v)) (nI a) (nI r) (nI n) (nI (i + 1)) = some (r4 c A') ∧ ∀ k, A' k = wfil A a r n i k := by
      intro v hv
      obtain ⟨A', p1, p2⟩ := ih (i + 1) f (upd A (a + i) v) (by omega) (by omega)
      refine ⟨A', p1, fun k => ?_⟩
      rw [p2 k]
      unfold wfil
      by_cases hk : k = a + i
      · subst hk
        rw [if_neg (by omega), if_pos (by omega), pk_us, hv]
        by_cases hr : i < r
        · rw [if_pos hr, if_pos (by omega)]
        · rw [if_neg hr, if_neg (by omega)]
      · rw [pk_un hk]
        by_cases h2 : a + (i + 1) ≤ k ∧ k < a + (r + n)
        · rw [if_pos h2, if_pos (show a + i ≤ k ∧ k < a + (r + n) by omega)]
        · rw [if_neg h2, if_neg (show ¬ (a + i ≤ k ∧ k < a + (r + n)) by omega)]
    by_cases hr : r ≤ i
    · rw [if_pos (nI_le hr (by omega))]
      exact fin 0 (by rw [if_neg (by omega)])
    · rw [if_neg (nI_ge (by omega) (by omega))]
      exact fin (-1) (by rw [if_pos (by omega)])
theorem make190 {t : HS} {a r n : Nat} (hs' : r + n ≤ 256) (he : a + (r + n) ≤ 1536) : ∀ m i f A, i + m = r + n → m < f → ∃ A', pX5_make_190 f (r5 t A) (nI r) (nI n) (nI a) (nI i) = some (nI a, hs (r5 t A') 0 7 (t.1 0 7 + 1)) ∧ ∀ k, A' k = wfil A a r n i k := by
  intro m
  induction m with
  | zero =>
    intro i f A hi hf
    obtain ⟨f, rfl⟩ : ∃ g, f = g + 1 := ⟨f - 1, by omega⟩
    unfold pX5_make_190
    rw [nI_add, if_pos (nI_le (by omega) (by omega))]
    exact ⟨A, rfl, fun k => (if_neg (by omega)).symm⟩
  | succ m ih =>
    intro i f A hi hf
    obtain ⟨f, rfl⟩ : ∃ g, f = g + 1 := ⟨f - 1, by omega⟩
    unfold pX5_make_190
    rw [nI_add, if_neg (nI_ge (by omega) (by omega)), nI_add, stA_n (by omega) (by omega), stA_n (by omega) (by omega), r5_5, r5_5, nI_1]
    have fin : ∀ v : Int32, (v = if i < r then -1 else 0) → ∃ A', pX5_make_190 f (r5 t (upd A (a + i) v)) (nI r) (nI n) (nI a) (nI (i + 1)) = some (nI a, hs (r5 t A') 0 7 (t.1 0 7 + 1)) ∧ ∀ k, A' k = wfil A a r n i k := by
      intro v hv
      obtain ⟨A', p1, p2⟩ := ih (i + 1) f (upd A (a + i) v) (by omega) (by omega)
      refine ⟨A', p1, fun k => ?_⟩
      rw [p2 k]
      unfold wfil
      by_cases hk : k = a + i
      · subst hk
        rw [if_neg (by omega), if_pos (by omega), pk_us, hv]
        by_cases hr : i < r
        · rw [if_pos hr, if_pos (by omega)]
        · rw [if_neg hr, if_neg (by omega)]
      · rw [pk_un hk]
        by_cases h2 : a + (i + 1) ≤ k ∧ k < a + (r + n)
        · rw [if_pos h2, if_pos (show a + i ≤ k ∧ k < a + (r + n) by omega)]
        · rw [if_neg h2, if_neg (show ¬ (a + i ≤ k ∧ k < a + (r + n)) by omega)]
    by_cases hr : r ≤ i
    · rw [if_pos (nI_le hr (by omega))]
      exact fin 0 (by rw [if_neg (by omega)])
    · rw [if_neg (nI_ge (by omega) (by omega))]
      exact fin (-1) (by rw [if_pos (by omega)])
