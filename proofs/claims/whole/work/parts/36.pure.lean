theorem mkC_init (c : HS) : hs c 0 6 0 = mkC c (c.1 7) (c.1 12) (nI 0) (c.1 0 10) := by
  refine hs_ext (fun k j => ?_) rfl
  by_cases h : k = 0
  · subst h
    rw [hs_eq]
    show (if j = 6 then 0 else c.1 0 j) = upd (upd (c.1 0) 6 (nI 0)) 10 (c.1 0 10) j
    unfold upd
    by_cases h6 : j = 6
    · subst h6; simp; rfl
    · by_cases h10 : j = 10
      · subst h10; simp
      · simp [h6, h10]
  · rw [hs_nk h]
    by_cases h7 : k = 7
    · subst h7; rfl
    · by_cases h12 : k = 12
      · subst h12; rfl
      · simp [mkC, h, h7, h12]
theorem sm_zero {g : Nat → Int32} : ∀ n, (∀ i, i < n → g i = 0) → sm g n = 0
  | 0, _ => rfl
  | n + 1, h => by
    show sm g n + g n = 0
    rw [sm_zero n (fun i hi => h i (by omega)), h n (by omega), Int32.add_zero]
theorem ki_init {c t : HS} {R : Nat → Prop} (h : smAge c t) (Fd : Nat → Int32) : KI c R (c.1 7) Fd 0 := by
  have n2 : ∀ k, k < 768 → ¬ c.1 7 k = 2 := by
    intro k hk
    rcases h k hk with e | e | e <;> rw [e.1] <;> decide
  refine ⟨by omega, fun k hk => Or.inl rfl, (cnt_zero 768 (fun k hk => decide_eq_false (n2 k hk))).symm, fun j hj => by omega, fun k hk e => absurd e (n2 k hk), ?_⟩
  rw [sm_zero 768 (fun k hk => if_neg (n2 k hk))]
  rfl
theorem mark_iff {c t : HS} {B n : Nat} {all : Int32} {A Fd : Nat → Int32} (hb : Bs c t B) (hK : KI c (Reach t all) A Fd n) (h1 : ∀ x, seed t all x → Yg t x → A (x / 2) = 2) (h2 : ∀ j, j < n → ∀ a, a < 1536 → Fd j = nI a → ∀ y, edge t a y → Yg t y → A (y / 2) = 2) : ∀ k, k < 768 → ((A k = 2 ↔ Reach t all (2 * k)) ∧ (¬ Reach t all (2 * k) → A k = c.1 7 k)) := by
  have hev : ∀ y, Yg t y → y % 2 = 0 ∧ y < 1536 := by
    intro y hy
    obtain ⟨r, m, -, -, -, -, hc⟩ := hb.1.2.1.2.2.2.2.1 y hy.1 hy.2.1
    exact ⟨th_even hc, hy.1⟩
  have key := reach_iff (t := t) (all := all) (M := fun a => a < 1536 ∧ a % 2 = 0 ∧ A (a / 2) = 2) (fun a ha => by
      obtain ⟨q1, q2, q3⟩ := ha
      rcases hK.2.1 (a / 2) (by omega) with e | ⟨-, -, e⟩
      · rcases hb.2.2.1 (a / 2) (by omega) with q | q | q <;> rw [← e, q3] at q <;> exact absurd q.1 (by decide)
      · rw [show 2 * (a / 2) = a by omega] at e
        exact e) (fun x hs hy => ⟨hy.1, (hev x hy).1, h1 x hs hy⟩) (fun x y hx he hy => by
      obtain ⟨q1, q2, q3⟩ := hx
      obtain ⟨j, j1, j2⟩ := hK.2.2.2.2.1 (x / 2) (by omega) q3
      rw [show 2 * (x / 2) = x by omega] at j2
      exact ⟨hy.1, (hev y hy).1, h2 j j1 x q1 j2 y he hy⟩)
  intro k hk
  have := key (2 * k)
  rw [show 2 * k / 2 = k by omega] at this
  have hiff : A k = 2 ↔ Reach t all (2 * k) := ⟨fun h => this.mp ⟨by omega, by omega, h⟩, fun h => (this.mpr h).2.2⟩
  refine ⟨hiff, fun hn => ?_⟩
  rcases hK.2.1 k hk with e | ⟨e, -⟩
  · exact e
  · exact absurd (hiff.mp e) hn
theorem markY {c t : HS} {B : Nat} {L : Int32} (hb : Bs c t B) (hrf : ivRef t) (hrt : ivRoot t) : ∃ s1 s2 A Fd n, pX0_findHeld (mkC c (c.1 7) (c.1 12) (nI 0) L) = some s1 ∧ pX0_findRemembered s1 = some s2 ∧ pX0_findReferred s2 = some (mkC c A Fd (nI n) (L + sm (fun k => rl t (2 * k)) (32 * B) + sm (fun k => if A k = 2 then c.1 5 k else 0) 768)) ∧ ∀ k, k < 768 → ((A k = 2 ↔ Reach t 0 (2 * k)) ∧ (¬ Reach t 0 (2 * k) → A k = c.1 7 k)) := by
  obtain ⟨q, hq, hd⟩ := hb.2.1.1.2.2.2.2
  have hB := hb.1.1.2.1
  obtain ⟨A1, F1, n1, p1, p2, p3, p4, p5⟩ := H2 (all := 0) (L := L) hb hq hd hrt 10 0 FU (c.1 7) (c.1 12) 0 (by omega) (FU_ge (by omega)) (ki_init hb.2.2.1 _)
  rw [nI_0] at p1
  obtain ⟨A2, F2', n2, q1, q2, q3, q4⟩ := R2 (L := L) hb hrf (32 * B) 0 FU A1 F1 n1 (by omega) (FU_ge (by omega)) p2
  have e0 : L + sm (fun k => rl t (2 * k)) 0 = L := Int32.add_zero L
  rw [e0, Nat.mul_zero, nI_0] at q1
  obtain ⟨A3, F3, n3, r1, r2, r3, r4⟩ := F2 (all := 0) (L := L + sm (fun k => rl t (2 * k)) (32 * B)) hb hrf 768 0 FU A2 F2' n2 (by omega) (FU_ge (by omega)) (by omega) q2 (fun j hj => by omega)
  have e1 : L + sm (fun k => rl t (2 * k)) (32 * B) + sm (fun j => c.1 5 ((F2' j).toNatClampNeg / 2)) 0 = L + sm (fun k => rl t (2 * k)) (32 * B) := Int32.add_zero _
  rw [e1, nI_0, r2.2.2.2.2.2] at r1
  refine ⟨_, _, A3, F3, n3, p1, q1, r1, mark_iff hb r2 (fun x hs hy => ?_) r4⟩
  have hx := hy.1
  rcases hs with ⟨i, hi, e⟩ | ⟨k, q', e1, e2, e3, e4⟩ | ⟨-, b, hb1, hb2, hb3⟩
  · exact r3.1 _ (by omega) (q3.1 _ (by omega) (p4 i (by omega) hi x hx e hy))
  · have : q' = q := (nI_eq (by omega) (by omega)).mp (e1.symm.trans hd)
    subst this
    exact r3.1 _ (by omega) (q3.1 _ (by omega) (p5 k e3 x hx e4 hy))
  · obtain ⟨r, m, -, -, -, -, hc⟩ := hb.1.2.1.2.2.2.2.1 b hb1 hb2.1
    have hev := th_even hc
    have hlt := th_lt hb.1.2.1 hb1 hb2.1
    have eb : 2 * (b / 2) = b := by omega
    refine r3.1 _ (by omega) (q4 (b / 2) (by omega) (by omega) (by rw [eb]; exact hb2) x (by rw [eb]; exact hb3) hy)
theorem markA {c t : HS} {B : Nat} {L : Int32} (hb : Bs c t B) (hrf : ivRef t) (hrt : ivRoot t) : ∃ s1 A Fd n, pX0_findHeld (mkC c (c.1 7) (c.1 12) (nI 0) L) = some s1 ∧ pX0_findReferred s1 = some (mkC c A Fd (nI n) (L + sm (fun k => if A k = 2 then c.1 5 k else 0) 768)) ∧ ∀ k, k < 768 → ((A k = 2 ↔ Reach t 1 (2 * k)) ∧ (¬ Reach t 1 (2 * k) → A k = c.1 7 k)) := by
  obtain ⟨q, hq, hd⟩ := hb.2.1.1.2.2.2.2
  have hB := hb.1.1.2.1
  obtain ⟨A1, F1, n1, p1, p2, p3, p4, p5⟩ := H2 (all := 1) (L := L) hb hq hd hrt 10 0 FU (c.1 7) (c.1 12) 0 (by omega) (FU_ge (by omega)) (ki_init hb.2.2.1 _)
  rw [nI_0] at p1
  obtain ⟨A3, F3, n3, r1, r2, r3, r4⟩ := F2 (all := 1) (L := L) hb hrf 768 0 FU A1 F1 n1 (by omega) (FU_ge (by omega)) (by omega) p2 (fun j hj => by omega)
  have e1 : L + sm (fun j => c.1 5 ((F1 j).toNatClampNeg / 2)) 0 = L := Int32.add_zero _
  rw [e1, nI_0, r2.2.2.2.2.2] at r1
  refine ⟨_, A3, F3, n3, p1, r1, mark_iff hb r2 (fun x hs hy => ?_) r4⟩
  have hx := hy.1
  rcases hs with ⟨i, hi, e⟩ | ⟨k, q', e1, e2, e3, e4⟩ | ⟨e, -⟩
  · exact r3.1 _ (by omega) (p4 i (by omega) hi x hx e hy)
  · have : q' = q := (nI_eq (by omega) (by omega)).mp (e1.symm.trans hd)
    subst this
    exact r3.1 _ (by omega) (p5 k e3 x hx e4 hy)
  · exact absurd e (by decide)
