def mkC (c : HS) (A Fd : Nat → Int32) (N L : Int32) : HS := (fun k => if k = 7 then A else if k = 12 then Fd else if k = 0 then upd (upd (c.1 0) 6 N) 10 L else c.1 k, c.2)
def mkM (t : HS) (F D : Nat → Int32) (L : Int32) : HS := (fun k => if k = 8 then F else if k = 14 then D else if k = 0 then upd (t.1 0) 11 L else t.1 k, t.2)
theorem mkC_7 (c : HS) (A Fd : Nat → Int32) (N L : Int32) (i : Nat) (v : Int32) : hs (mkC c A Fd N L) 7 i v = mkC c (upd A i v) Fd N L := by
  refine hs_ext (fun k j => ?_) rfl
  by_cases h : k = 7
  · subst h; rw [hs_eq]; rfl
  · rw [hs_nk h]; simp [mkC, h]
theorem mkC_12 (c : HS) (A Fd : Nat → Int32) (N L : Int32) (i : Nat) (v : Int32) : hs (mkC c A Fd N L) 12 i v = mkC c A (upd Fd i v) N L := by
  refine hs_ext (fun k j => ?_) rfl
  by_cases h : k = 12
  · subst h; rw [hs_eq]; rfl
  · rw [hs_nk h]; simp [mkC, h]
theorem mkC_6 (c : HS) (A Fd : Nat → Int32) (N L v : Int32) : hs (mkC c A Fd N L) 0 6 v = mkC c A Fd v L := by
  refine hs_ext (fun k j => ?_) rfl
  by_cases h : k = 0
  · subst h
    rw [hs_eq]
    show (if j = 6 then v else upd (upd (c.1 0) 6 N) 10 L j) = upd (upd (c.1 0) 6 v) 10 L j
    unfold upd
    by_cases h6 : j = 6
    · subst h6; simp
    · simp [h6]
  · rw [hs_nk h]; simp [mkC, h]
theorem mkC_10 (c : HS) (A Fd : Nat → Int32) (N L v : Int32) : hs (mkC c A Fd N L) 0 10 v = mkC c A Fd N v := by
  refine hs_ext (fun k j => ?_) rfl
  by_cases h : k = 0
  · subst h
    rw [hs_eq]
    show (if j = 10 then v else upd (upd (c.1 0) 6 N) 10 L j) = upd (upd (c.1 0) 6 N) 10 v j
    unfold upd
    by_cases h6 : j = 10
    · simp [h6]
    · simp [h6]
  · rw [hs_nk h]; simp [mkC, h]
theorem mkM_8 (t : HS) (F D : Nat → Int32) (L : Int32) (i : Nat) (v : Int32) : hs (mkM t F D L) 8 i v = mkM t (upd F i v) D L := by
  refine hs_ext (fun k j => ?_) rfl
  by_cases h : k = 8
  · subst h; rw [hs_eq]; rfl
  · rw [hs_nk h]; simp [mkM, h]
theorem mkM_14 (t : HS) (F D : Nat → Int32) (L : Int32) (i : Nat) (v : Int32) : hs (mkM t F D L) 14 i v = mkM t F (upd D i v) L := by
  refine hs_ext (fun k j => ?_) rfl
  by_cases h : k = 14
  · subst h; rw [hs_eq]; rfl
  · rw [hs_nk h]; simp [mkM, h]
theorem mkM_11 (t : HS) (F D : Nat → Int32) (L v : Int32) : hs (mkM t F D L) 0 11 v = mkM t F D v := by
  refine hs_ext (fun k j => ?_) rfl
  by_cases h : k = 0
  · subst h
    rw [hs_eq]
    show (if j = 11 then v else upd (t.1 0) 11 L j) = upd (t.1 0) 11 v j
    unfold upd
    by_cases h6 : j = 11
    · simp [h6]
    · simp [h6]
  · rw [hs_nk h]; simp [mkM, h]
def Yg (t : HS) (a : Nat) : Prop := a < 1536 ∧ t.1 6 a = 1 ∧ t.1 7 a = 0
def edge (t : HS) (a y : Nat) : Prop := ∃ r i, t.1 9 a = nI r ∧ r ≤ 256 ∧ i < r ∧ y < 1536 ∧ t.1 5 (a + i) = nI y
def seed (t : HS) (all : Int32) (a : Nat) : Prop := (∃ i, i < 10 ∧ t.1 11 i = nI a) ∨ (∃ k q, t.1 0 1 = nI q ∧ q ≤ 24 ∧ k < q ∧ pX5_points t (t.1 12 k) = some (nI a)) ∨ (all = 0 ∧ ∃ b, b < 1536 ∧ Pr t b ∧ edge t b a)
def Reach (t : HS) (all : Int32) (a : Nat) : Prop := ∀ S : Nat → Prop, (∀ x, seed t all x → Yg t x → S x) → (∀ x y, S x → edge t x y → Yg t y → S y) → S a
theorem reach_seed {t : HS} {all : Int32} {a : Nat} (h : seed t all a) (hy : Yg t a) : Reach t all a := fun _ h1 _ => h1 a h hy
theorem reach_step {t : HS} {all : Int32} {a y : Nat} (h : Reach t all a) (he : edge t a y) (hy : Yg t y) : Reach t all y := fun S h1 h2 => h2 a y (h S h1 h2) he hy
theorem reach_yg {t : HS} {all : Int32} {a : Nat} (h : Reach t all a) : Yg t a := h (Yg t) (fun _ _ hy => hy) (fun _ _ _ _ hy => hy)
theorem reach_iff {t : HS} {all : Int32} {M : Nat → Prop} (h1 : ∀ a, M a → Reach t all a) (h2 : ∀ x, seed t all x → Yg t x → M x) (h3 : ∀ x y, M x → edge t x y → Yg t y → M y) (a : Nat) : M a ↔ Reach t all a := ⟨h1 a, fun h => h M h2 h3⟩
theorem neg1 {a : Nat} (h : a < 2 ^ 31) : ¬ (-1 : Int32) = nI a := fun e => by
  have := nI_pos h
  rw [← e] at this
  exact this (by decide)
theorem sm_upd {g g' : Nat → Int32} : ∀ N k, k < N → (∀ j, j < N → j ≠ k → g' j = g j) → g k = 0 → sm g' N = sm g N + g' k
  | 0, k, hk, _, _ => by omega
  | N + 1, k, hk, h1, h2 => by
    show sm g' N + g' N = sm g N + g N + g' k
    by_cases he : k = N
    · subst he
      rw [sm_congr k (fun i hi => h1 i (by omega) (by omega)), h2, Int32.add_zero]
    · rw [sm_upd N k (by omega) (fun j hj hn => h1 j (by omega) hn) h2, h1 N (by omega) (by omega), Int32.add_assoc, Int32.add_comm (g' k) (g N), ← Int32.add_assoc]
def KI (c : HS) (R : Nat → Prop) (A Fd : Nat → Int32) (n : Nat) : Prop :=
  n ≤ 768 ∧ (∀ k, k < 768 → A k = c.1 7 k ∨ (A k = 2 ∧ c.1 7 k = 1 ∧ R (2 * k))) ∧ n = cnt (fun k => decide (A k = 2)) 768 ∧ (∀ j, j < n → ∃ k, k < 768 ∧ Fd j = nI (2 * k) ∧ A k = 2) ∧ (∀ k, k < 768 → A k = 2 → ∃ j, j < n ∧ Fd j = nI (2 * k)) ∧ sm (fun j => c.1 5 ((Fd j).toNatClampNeg / 2)) n = sm (fun k => if A k = 2 then c.1 5 k else 0) 768
def Bs (c t : HS) (B : Nat) : Prop := Geo c t B ∧ Rm c t ∧ smAge c t ∧ smRt c t ∧ smSt c t ∧ c.1 0 5 = t.1 0 1
theorem ki_nz {c : HS} {R : Nat → Prop} {A Fd : Nat → Int32} {n k : Nat} (h : KI c R A Fd n) (hk : k < 768) : (A k = 0 ↔ c.1 7 k = 0) ∧ (A k = 3 → c.1 7 k = 3) := by
  rcases h.2.1 k hk with e | ⟨e1, e2, -⟩
  · rw [e]; exact ⟨Iff.rfl, fun h => h⟩
  · rw [e1, e2]; exact ⟨by decide, fun h => absurd h (by decide)⟩
theorem ki_geo {c t : HS} {B n : Nat} {R : Nat → Prop} {A Fd : Nat → Int32} {N L : Int32} (hb : Bs c t B) (h : KI c R A Fd n) : Geo (mkC c A Fd N L) t B := by
  obtain ⟨⟨g1, g2, g3, g4, g5, g6, g7⟩, -⟩ := hb
  have hB := g1.2.1
  refine ⟨g1, g2, g3, g4, fun a => ?_, g6, g7⟩
  rw [← g5 a]
  constructor
  · rintro ⟨h1, h2, h3⟩
    exact ⟨h1, h2, fun e => h3 ((ki_nz h (k := a / 2) (by omega)).1.mpr e)⟩
  · rintro ⟨h1, h2, h3⟩
    exact ⟨h1, h2, fun e => h3 ((ki_nz h (k := a / 2) (by omega)).1.mp e)⟩
theorem findC {c t : HS} {B n : Nat} {R : Nat → Prop} {A Fd : Nat → Int32} {L : Int32} (hb : Bs c t B) (h : KI c R A Fd n) {x : Int32} (hx : ptr t x) (hR : ∀ y, y < 1536 → x = nI y → Yg t y → R y) : ∃ A' Fd' n', pX0_find (mkC c A Fd (nI n) L) x = some (mkC c A' Fd' (nI n') L) ∧ KI c R A' Fd' n' ∧ (∀ k, k < 768 → A k = 2 → A' k = 2) ∧ n ≤ n' ∧ (∀ j, j < n → Fd' j = Fd j) ∧ ∀ y, y < 1536 → x = nI y → Yg t y → A' (y / 2) = 2 := by
  have hG : Geo (mkC c A Fd (nI n) L) t B := ki_geo hb h
  have hK := h
  obtain ⟨k1, k2, k3, k4, k5, k6⟩ := h
  have hB := hG.1.2.1
  unfold pX0_find
  rcases hx with rfl | ⟨y, hy, rfl, hb6⟩
  · rw [isThing_f hG.1 (fun a ha e => absurd e (neg1 (by omega))), bd1_s, if_pos rfl]
    exact ⟨A, Fd, n, rfl, hK, fun _ _ h => h, Nat.le_refl n, fun _ _ => rfl, fun y hy e => absurd e (neg1 (by omega))⟩
  · obtain ⟨r, m, a1, a2, a3, a4, a5, a6, a7, a8, a9, a10⟩ := geo_rn hG hy hb6
    rw [isThing_t hG.1 a9, bd1_s, if_neg (by decide), l2, pk_div (by omega) (by omega) (by omega), ldA_n (by omega) (by omega)]
    have e7 : (mkC c A Fd (nI n) L).1 7 (y / 2) = A (y / 2) := rfl
    have e6 : (mkC c A Fd (nI n) L).1 0 6 = nI n := rfl
    rw [e7, e6]
    have e2y : 2 * (y / 2) = y := by omega
    by_cases hA : A (y / 2) = 1
    · have hn : n < 768 := by
        rw [k3]
        exact cnt_lt 768 (y / 2) (by omega) (decide_eq_false (by rw [hA]; decide))
      rw [if_pos hA, l768, if_pos (nI_lt hn (by omega)), stA_n (by omega) (by omega), ← l2, mkC_7]
      have e6' : (mkC c (upd A (y / 2) 2) Fd (nI n) L).1 0 6 = nI n := rfl
      rw [e6', stA_n hn (by omega), mkC_12]
      have e6'' : (mkC c (upd A (y / 2) 2) (upd Fd n (nI y)) (nI n) L).1 0 6 = nI n := rfl
      have hyg : Yg t y := by
        refine ⟨hy, hb6, ?_⟩
        rcases age_old hb.2.2.1 hy a8 hb6 with ⟨g1, g2⟩ | ⟨g1, g2⟩
        · rcases k2 (y / 2) (by omega) with e | ⟨e, -⟩
          · rw [hA, g1] at e; exact absurd e (by decide)
          · rw [hA] at e; exact absurd e (by decide)
        · exact g2
      have hc1 : c.1 7 (y / 2) = 1 := by
        rcases k2 (y / 2) (by omega) with e | ⟨e, -⟩
        · rw [← e]; exact hA
        · rw [hA] at e; exact absurd e (by decide)
      refine ⟨upd A (y / 2) 2, upd Fd n (nI y), n + 1, ?_, ⟨by omega, ?_, ?_, ?_, ?_, ?_⟩, ?_, by omega, ?_, ?_⟩
      · unfold pfA
        rw [e6'', mkC_6, nI_1]
      · intro k hk
        by_cases hkk : k = y / 2
        · subst hkk
          right
          rw [pk_us, e2y]
          exact ⟨rfl, hc1, hR y hy rfl hyg⟩
        · rw [pk_un hkk]
          exact k2 k hk
      · rw [k3]
        refine (cnt_upd 768 (y / 2) (by omega) (decide_eq_false (by rw [hA]; decide)) (decide_eq_true pk_us) (fun j hj hjn => ?_)).symm
        show decide (upd A (y / 2) 2 j = 2) = decide (A j = 2)
        rw [pk_un hjn]
      · intro j hj
        by_cases hjn : j = n
        · subst hjn
          exact ⟨y / 2, by omega, by rw [pk_us, e2y], pk_us⟩
        · obtain ⟨k, q1, q2, q3⟩ := k4 j (by omega)
          refine ⟨k, q1, by rw [pk_un hjn]; exact q2, ?_⟩
          by_cases hkk : k = y / 2
          · subst hkk; exact pk_us
          · rw [pk_un hkk]; exact q3
      · intro k hk hAk
        by_cases hkk : k = y / 2
        · subst hkk
          exact ⟨n, by omega, by rw [pk_us, e2y]⟩
        · rw [pk_un hkk] at hAk
          obtain ⟨j, q1, q2⟩ := k5 k hk hAk
          exact ⟨j, by omega, by rw [pk_un (by omega)]; exact q2⟩
      · show sm (fun j => c.1 5 ((upd Fd n (nI y) j).toNatClampNeg / 2)) n + c.1 5 ((upd Fd n (nI y) n).toNatClampNeg / 2) = _
        rw [pk_us, nI_clamp (by omega), sm_congr n (g := fun j => c.1 5 ((Fd j).toNatClampNeg / 2)) (fun i hi => by rw [pk_un (by omega)]), k6]
        have := sm_upd (g := fun k => if A k = 2 then c.1 5 k else 0) (g' := fun k => if upd A (y / 2) 2 k = 2 then c.1 5 k else 0) 768 (y / 2) (by omega) (fun j hj hjn => by
          show (if upd A (y / 2) 2 j = 2 then c.1 5 j else 0) = (if A j = 2 then c.1 5 j else 0)
          rw [pk_un hjn]) (if_neg (by rw [hA]; decide))
        rw [this, if_pos pk_us]
      · intro k hk hAk
        by_cases hkk : k = y / 2
        · subst hkk; exact pk_us
        · rw [pk_un hkk]; exact hAk
      · intro j hj
        exact pk_un (by omega)
      · intro y' hy' e _
        have : y = y' := (nI_eq (by omega) (by omega)).mp e
        subst this
        exact pk_us
    · rw [if_neg hA]
      refine ⟨A, Fd, n, rfl, hK, fun _ _ h => h, Nat.le_refl n, fun _ _ => rfl, fun y' hy' e hyg => ?_⟩
      have : y = y' := (nI_eq (by omega) (by omega)).mp e
      subst this
      rcases k2 (y / 2) (by omega) with e | ⟨e, -⟩
      · rcases age_old hb.2.2.1 hy a8 hb6 with ⟨g1, g2⟩ | ⟨g1, g2⟩
        · rw [hyg.2.2] at g2; exact absurd g2 (by decide)
        · rw [g1] at e; exact absurd e hA
      · exact e
