theorem hs_comm (s : HS) (k i j : Nat) (x y : Int32) (h : i ≠ j) : hs (hs s k i x) k j y = hs (hs s k j y) k i x := by
  refine hs_ext (fun q p => ?_) rfl
  by_cases hq : q = k
  · subst hq
    rw [hs_eq, hs_eq, hs_eq, hs_eq]
    by_cases h1 : p = j
    · rw [if_pos h1, if_neg (fun e => h (e.symm.trans h1)), if_pos h1]
    · rw [if_neg h1, if_neg h1]
  · rw [hs_nk hq, hs_nk hq, hs_nk hq, hs_nk hq]
theorem end_SI {c c2 t t2 : HS} {B : Nat} {rc : Nat → Prop} {lost L : Int32} (hb : Bs c t B) (hdet : smDet c t) (hbar : ∀ b, b < 24 → c.1 3 b = t.1 4 b) (hrf : ivRef t) (hrt : ivRoot t) (hcl : ∀ x y, x < 1536 → lv t rc x → edge t x y → t.1 6 y = 1 → lv t rc y) (hroot : ∀ i y, i < 10 → y < 1536 → t.1 11 i = nI y → t.1 6 y = 1 → lv t rc y) (hC : CF c c2 t rc B lost L) (hM : MF t t2 rc B L) : (CW c2 B ∧ smAge c2 t2 ∧ smRN c2 t2 ∧ smBlk c2 t2 ∧ smDet c2 t2 ∧ smWd c2 t2 ∧ smRt c2 t2 ∧ smSt c2 t2 ∧ smLog c2 t2) ∧ Inv t2 B := by
  obtain ⟨⟨g1, g2, g3, g4, g5, g6, g7⟩, ⟨⟨s1, s2, s3, s4, s5⟩, y1, y2, y3, y4, y5, y6⟩, hag, hsr, hss, hht⟩ := hb
  obtain ⟨C1, C2, C3, C4, ⟨c4, c5, c6, c8, c10, c11⟩, ⟨d0, d1, d2, d3, d4, d5, d7, d8, d9, d10, d11, d12, d13⟩⟩ := hC
  obtain ⟨M1, M2, M3, M4, ⟨m2, m5, m9, m10, m11, m12, m13⟩, ⟨e0, e1, e2, e3, e4, e5, e6, e7, e8, e9, e10, e11⟩⟩ := hM
  have hB := g1.2.1
  have hth : ∀ a, a < 1536 → (t2.1 6 a = 1 ↔ lv t rc a) := by
    intro a ha
    constructor
    · intro h
      by_cases hl : lv t rc a
      · exact hl
      · rw [(M1 a ha).2.1 hl] at h; exact absurd h (by decide)
    · exact fun h => ((M1 a ha).1 h).1
  have hng : ∀ a r n, a < 1536 → lv t rc a → inCell t B a r n → t.1 9 a = nI r → t.1 10 a = nI n → r + n ≤ 256 → inCell t2 B a r n := by
    intro a r n ha hl hc hr hn h256
    rcases hc with ⟨b1, k, hk, b2, b3, b4⟩ | ⟨b1, b2, b3, b4, b5⟩
    · left
      refine ⟨?_, k, hk, by rw [m2]; exact b2, b3, b4⟩
      rw [(M2 (a / 64) (by omega)).1, nS_f]
      · exact b1
      · rintro (q | ⟨f, f1, f2, f3, f4⟩)
        · have := q.2 (a % 64) (by omega)
          rw [show 64 * (a / 64) + a % 64 = a by omega] at this
          exact this hl
        · rcases (cov_in g2 f1 f2 f4).2 with q | ⟨-, q⟩
          · rw [q, f2] at b1; exact absurd b1 (by decide)
          · rw [q] at b1; exact absurd b1 (by decide)
    · right
      have e64 : 64 * (a / 64) = a := by omega
      have ncov : ∀ k, k < 24 → (t.1 1 k = 2 ∨ t.1 1 k = 3) → cov t (a / 64) k → nS t rc k = t.1 1 k := by
        intro k hk h23 hck
        refine nS_f ?_
        rintro (q | ⟨f, f1, f2, f3, f4⟩)
        · rw [q.1] at h23; exact absurd h23 (by decide)
        · have := cov_uniq g2 f1 f2 f4 (by omega) b1 hck
          subst this
          rw [e64] at f3
          rcases hl.2 with w | w
          · have := f3.1.2.2; rw [w] at this; exact absurd this (by decide)
          · exact f3.2 w
      have hcv : ∀ k, a / 64 ≤ k → k < a / 64 + (r + n + 63) / 64 → cov t (a / 64) k := fun k h1 h2 => ⟨r, n, by rw [e64]; exact hr, by rw [e64]; exact hn, h256, h1, h2⟩
      refine ⟨?_, b2, b3, b4, fun k h1 h2 => ?_⟩
      · rw [(M2 (a / 64) (by omega)).1, ncov (a / 64) (by omega) (Or.inl b1) (hcv _ (Nat.le_refl _) (by omega))]
        exact b1
      · rw [(M2 k (by omega)).1, ncov k (by omega) (Or.inr (b5 k h1 h2)) (hcv k (by omega) h2)]
        exact b5 k h1 h2
  have hlt : ∀ a, lv t rc a → t.1 6 a = 1 := fun a h => h.1
  refine ⟨⟨?_, ?_, ?_, ?_, ?_, ?_, ?_, ?_, ?_⟩, ⟨?_, ?_, ?_, ?_, ?_, ?_, ?_, ?_⟩, ?_, ?_, ?_, ?_⟩
  · exact ⟨g1.1, g1.2.1, d0.trans g1.2.2.1, d1.trans g1.2.2.2⟩
  · intro k hk
    by_cases hl : lv t rc (2 * k)
    · exact Or.inr (Or.inr ⟨(C1 k hk).1 hl, ((M1 (2 * k) (by omega)).1 hl).1, ((M1 (2 * k) (by omega)).1 hl).2⟩)
    · exact Or.inl ⟨(C1 k hk).2 hl, (M1 (2 * k) (by omega)).2.1 hl⟩
  · intro k hk
    rw [c5, c6, m9, m10]
    exact g6 k hk
  · intro b hb
    refine ⟨by rw [(C2 b hb).1, (M2 b hb).1], ?_, by rw [(C2 b hb).2.1, (M2 b hb).2]⟩
    by_cases hbB : b < B
    · rcases (C3 b hbB).1 with q | q
      · rcases (M3 b hbB).1 with w | w
        · rw [q, w]
        · have := (C3 b hbB).2.mpr ((M3 b hbB).2.mp w)
          rw [q] at this; exact absurd this (by decide)
      · rw [q, (M3 b hbB).2.mpr ((C3 b hbB).2.mp q)]
    · rw [C4 b (by omega) hb, M4 b (by omega) hb]
      exact hbar b hb
  · intro b hb
    rw [(M2 b hb).1, (C2 b hb).2.2, m2, m9, m10]
    by_cases hz : nS t rc b = 0
    · rw [hz]
      refine ⟨fun h => absurd h (by decide), fun h => absurd h (by decide), fun _ => ?_⟩
      by_cases hbB : b < B
      · rw [if_pos ⟨hbB, rfl⟩]
      · rw [if_neg (fun q => hbB q.1)]
        exact (hdet b hb).2.2 (Or.inl ((g2.2.1 b hb).2.1 (by omega)))
    · rw [if_neg (fun q => hz q.2), (nS_nz hz).2]
      exact hdet b hb
  · intro a ha
    rw [c4, m5]
    exact g7 a ha
  · intro i hi
    rw [c10, m11]
    exact hsr i hi
  · intro i hi
    rw [c11, m12]
    exact hss i hi
  · intro i hi
    rw [c8, m13]
    exact y4 i hi
  · exact ⟨g2.1.1, g2.1.2.1, e0.trans g2.1.2.2⟩
  · intro b hb
    rw [(M2 b hb).1, (M2 b hb).2]
    refine ⟨?_, fun hBb => ?_, fun _ => rfl⟩
    · by_cases hz : nS t rc b = 0
      · exact Or.inl hz
      · rw [(nS_nz hz).2]; exact (g2.2.1 b hb).1
    · by_cases hz : nS t rc b = 0
      · exact hz
      · rw [(nS_nz hz).2]; exact (g2.2.1 b hb).2.1 hBb
  · intro a ha
    refine ⟨?_, (M1 a ha).2.2⟩
    by_cases hl : lv t rc a
    · exact Or.inr ((M1 a ha).1 hl).1
    · exact Or.inl ((M1 a ha).2.1 hl)
  · intro b hb
    refine ⟨Or.inl (M2 b hb).2, ?_⟩
    by_cases hbB : b < B
    · exact (M3 b hbB).1
    · rw [M4 b (by omega) hb]; exact (y6 b hb).2
  · intro a ha h
    have hl := (hth a ha).mp h
    obtain ⟨r, n, a1, a2, a3, a4, a5⟩ := g2.2.2.2.2.1 a ha hl.1
    exact ⟨r, n, by rw [m9]; exact a1, by rw [m10]; exact a2, a3, a4, hng a r n ha hl a5 a1 a2 a4⟩
  · intro b hb h
    rw [(M2 b hb).1] at h
    have hz : ¬ nS t rc b = 0 := by rw [h]; decide
    rw [(nS_nz hz).2] at h
    rw [m2]
    exact g2.2.2.2.2.2.1 b hb h
  · intro b hb h
    rw [(M2 b hb).1] at h
    have hz : ¬ nS t rc b = 0 := by rw [h]; decide
    obtain ⟨q1, q2⟩ := nS_nz hz
    rw [q2] at h
    have hbg := g2.2.2.2.2.2.2.1 b hb h
    rw [hth (64 * b) (by omega)]
    rcases lv_or (rc := rc) g2.2.2.1 (by omega) hbg with w | w
    · exact w.1
    · obtain ⟨r, n, k1, k2, k3, k4, k5, k6⟩ := large_of g2 hb h
      exact absurd (Or.inr ⟨b, hb, h, w.1, r, n, k1, k2, k4, Nat.le_refl b, by omega⟩) q1
  · intro b hb h
    rw [(M2 b hb).1] at h
    have hz : ¬ nS t rc b = 0 := by rw [h]; decide
    obtain ⟨q1, q2⟩ := nS_nz hz
    rw [q2] at h
    obtain ⟨f, r, n, f1, f2, f3, f4, f5, f6, f7, f8⟩ := behind_of g2 hb h
    refine ⟨f, r, n, f1, ?_, by rw [m9]; exact f3, by rw [m10]; exact f4, f5, f6⟩
    rw [(M2 f (by omega)).1, nS_f]
    · exact f2
    · rintro (w | ⟨f', w1, w2, w3, w4⟩)
      · rw [f2] at w; exact absurd w.1 (by decide)
      · have := cov_uniq g2 w1 w2 w4 (by omega) f2 ⟨r, n, f3, f4, f5, Nat.le_refl f, by omega⟩
        subst this
        exact q1 (Or.inr ⟨f', w1, w2, w3, r, n, f3, f4, f5, by omega, f6⟩)
  · intro a r i ha h hr h256 hi
    have hl := (hth a ha).mp h
    rw [m9] at hr
    rw [m5]
    rcases hrf a r i ha hl.1 hr h256 hi with q | ⟨y, q1, q2, q3⟩
    · exact Or.inl q
    · exact Or.inr ⟨y, q1, q2, (hth y q1).mpr (hcl a y ha hl ⟨r, i, hr, h256, hi, q1, q2⟩ q3)⟩
  · intro i hi
    rw [m11]
    rcases hrt i hi with q | ⟨y, q1, q2, q3⟩
    · exact Or.inl q
    · exact Or.inr ⟨y, q1, q2, (hth y q1).mpr (hroot i y hi q1 q2 q3)⟩
  · intro a r i y ha h1 h2 h3 h4 h5 hy h6 h7 h8
    have hl := (hth y hy).mp h7
    rw [((M1 y hy).1 hl).2] at h8
    exact absurd h8 (by decide)
  · exact ⟨by rw [e5]; exact s1, Or.inl e3, by rw [e4]; exact s3, ⟨0, by omega, e2⟩, by rw [e1]; exact s5⟩
theorem ls_eq {c t : HS} {B : Nat} {all : Int32} {A : Nat → Int32} (hL : Lay t B) (hrn : smRN c t) (hA : ∀ k, k < 768 → ((A k = 2 ↔ Reach t all (2 * k)) ∧ (¬ Reach t all (2 * k) → A k = c.1 7 k))) : sm (fun k => if A k = 2 then c.1 5 k else 0) 768 = sm (fun a => if PB (Reach t all a) then t.1 9 a else 0) (64 * B) := by
  have hB := hL.1.2.1
  have e1 : sm (fun a => if PB (Reach t all a) then t.1 9 a else 0) (2 * (32 * B)) = sm (fun k => if A k = 2 then c.1 5 k else 0) (32 * B) := sm_two (32 * B) (fun i hi => by
    constructor
    · show (if PB (Reach t all (2 * i)) then t.1 9 (2 * i) else 0) = (if A i = 2 then c.1 5 i else 0)
      by_cases hr : Reach t all (2 * i)
      · rw [PB_t hr, if_pos rfl, if_pos ((hA i (by omega)).1.mpr hr), (hrn i (by omega)).1]
      · rw [PB_f hr, if_neg (by decide), if_neg (fun e => hr ((hA i (by omega)).1.mp e))]
    · show (if PB (Reach t all (2 * i + 1)) then t.1 9 (2 * i + 1) else 0) = 0
      rw [PB_f, if_neg (by decide)]
      intro hr
      have := (reach_yg hr).2.1
      rw [odd0 hL (by omega)] at this
      exact absurd this (by decide))
  have e2 : sm (fun k => if A k = 2 then c.1 5 k else 0) (32 * B + (768 - 32 * B)) = sm (fun k => if A k = 2 then c.1 5 k else 0) (32 * B) := sm_ext (768 - 32 * B) (fun i h1 h2 => if_neg (fun e => by
    have hr := (hA i (by omega)).1.mp e
    have := th_lt hL (reach_yg hr).1 (reach_yg hr).2.1
    omega))
  rw [show 32 * B + (768 - 32 * B) = 768 by omega] at e2
  rw [e2, ← e1, show 2 * (32 * B) = 64 * B by omega]
theorem rl_eq {t : HS} {B : Nat} (hL : Lay t B) : sm (rl t) (64 * B) = sm (fun k => rl t (2 * k)) (32 * B) := by
  have hB := hL.1.2.1
  rw [show 64 * B = 2 * (32 * B) by omega]
  refine sm_two (32 * B) (fun i hi => ⟨rfl, ?_⟩)
  unfold rl
  rw [PB_f, if_neg (by decide)]
  intro hp
  have := hp.1
  rw [odd0 hL (by omega)] at this
  exact absurd this (by decide)
theorem bs_of {c t : HS} {B : Nat} (hS : Sim c t B) (hI : Inv t B) : Bs c t B := ⟨geo_of hS hI, rm_of hS hI, hS.2.1, hS.2.2.2.2.2.2.1, hS.2.2.2.2.2.2.2.1, hS.2.2.2.2.2.2.2.2.2.2.2.2.1⟩
theorem pt_of {c t : HS} {B : Nat} (hG : Geo c t B) : ∀ w, ∃ z, pX5_points t w = some z ∧ ptr t z := fun w => by
  obtain ⟨z, -, h2, h3⟩ := pts hG w
  exact ⟨z, h2, h3⟩
theorem main_Y {c t : HS} {B : Nat} (hS : Sim c t B) (hI : Inv t B) : ∃ r c2 t2, pX0_collectYoung c = some (r, c2) ∧ pX5_collect t 0 = some (r, t2) ∧ t2.1 0 8 = t.1 0 8 ∧ t2.1 0 9 = t.1 0 9 ∧ t2.1 0 10 = t.1 0 10 ∧ t2.1 0 4 = t.1 0 4 ∧ c2.1 0 11 = c.1 0 11 ∧ Sim c2 (hs (hs t2 0 9 (t.1 0 9 + 1)) 0 8 (t.1 0 8 + r)) B ∧ Inv (hs (hs t2 0 9 (t.1 0 9 + 1)) 0 8 (t.1 0 8 + r)) B := by
  have hb0 := bs_of hS hI
  obtain ⟨z1, z2, z3, z4, z5, z6, z7, z8, z9, y1, y2, y3, y4, y5, y6, y7, y8, y9, y10, y11⟩ := id hS
  obtain ⟨i1, i2, i3, i4, i5⟩ := id hI
  obtain ⟨cb, hcb⟩ : ∃ cb, cb = hs c 0 8 (c.1 0 8 + 1) := ⟨_, rfl⟩
  have hb : Bs cb t B := by rw [hcb]; exact hb0
  have hrc : ∀ a, Reach t 0 a → Yg t a := fun a h => reach_yg h
  obtain ⟨s1, s2, A, Fd, n, p1, p2, p3, hA⟩ := markY (L := cb.1 0 10) hb i2 i3
  obtain ⟨F, D, q1, q2, q3⟩ := collY i1 i2 i3 i5 (pt_of hb.1)
  have hL : cb.1 0 10 + sm (fun k => rl t (2 * k)) (32 * B) + sm (fun k => if A k = 2 then cb.1 5 k else 0) 768 = t.1 0 11 + sm (rl t) (64 * B) + sm (fun a => if PB (Reach t 0 a) then t.1 9 a else 0) (64 * B) := by
    have e10 : cb.1 0 10 = t.1 0 11 := by rw [hcb]; exact y8
    rw [e10, rl_eq i1, ls_eq i1 hb.1.2.2.2.2.2.1 hA]
  rw [hL] at p3
  obtain ⟨c2, r1, hCF⟩ := classEnd (Fd := Fd) (N := nI n) (L := t.1 0 11 + sm (rl t) (64 * B) + sm (fun a => if PB (Reach t 0 a) then t.1 9 a else 0) (64 * B)) hb hrc (fun k hk => by rw [hcb]; show c.1 3 k = 0 ∨ c.1 3 k = 1; rw [(z4 k hk).2.1]; exact (i1.2.2.2.1 k hk).2) hA
  obtain ⟨t2, r2, hMF⟩ := collEnd (D := D) (L := t.1 0 11 + sm (rl t) (64 * B) + sm (fun a => if PB (Reach t 0 a) then t.1 9 a else 0) (64 * B)) i1 i5 q2 q3 hrc
  generalize nI (cnt (fun a => PB (Yg t a ∧ ¬ Reach t 0 a)) (64 * B)) = lost at r1 r2 hCF
  obtain ⟨hSI, hInv⟩ := end_SI hb (by rw [hcb]; exact z5) (by rw [hcb]; exact fun b hb => (z4 b hb).2.1) i2 i3 (fun x y hx hl he h6 => by
      have he' := he
      obtain ⟨r, i, g1, g2, g3, g4, g5⟩ := he
      rcases (i1.2.2.1 y g4).2 with h7 | h7
      · refine ⟨h6, Or.inr ?_⟩
        rcases hl.2 with w | w
        · exact reach_seed (Or.inr (Or.inr ⟨rfl, x, hx, ⟨hl.1, w, r, g2, g1, i4 x r i y hx hl.1 w g1 g2 g3 g4 g5 h6 h7⟩, he'⟩)) ⟨g4, h6, h7⟩
        · exact reach_step w he' ⟨g4, h6, h7⟩
      · exact ⟨h6, Or.inl h7⟩) (fun i y hi hy e h6 => by
      rcases (i1.2.2.1 y hy).2 with h7 | h7
      · exact ⟨h6, Or.inr (reach_seed (Or.inl ⟨i, hi, e⟩) ⟨hy, h6, h7⟩)⟩
      · exact ⟨h6, Or.inl h7⟩) hCF hMF
  obtain ⟨C1, C2, C3, C4, -, ⟨d0, d1, d2, d3, d4, d5, d7, d8, d9, d10, d11, d12, d13⟩⟩ := hCF
  obtain ⟨M1, M2, M3, M4, -, ⟨e0, e1, e2, e3, e4, e5, e6, e7, e8, e9, e10, e11⟩⟩ := hMF
  refine ⟨lost, c2, t2, ?_, by rw [q1, r2], e8, e9, e10, e4, by rw [d11, hcb]; rfl, ?_, hInv⟩
  · unfold pX0_collectYoung pfA
    show (bd1 (pX0_findHeld (hs (hs c 0 8 (c.1 0 8 + 1)) 0 6 0)) fun c4 => bd1 (pX0_findRemembered c4) fun c6 => bd1 (pX0_findReferred c6) fun c8 => bd2 (pX0_end c8) fun r11 c10 => some (r11, c10)) = some (lost, c2)
    rw [← hcb, mkC_init, p1, bd1_s, p2, bd1_s, p3, bd1_s, r1, bd2_s]
  · obtain ⟨x1, x2, x3, x4, x5, x6, x7, x8, x9⟩ := hSI
    refine ⟨x1, x2, x3, x4, x5, x6, x7, x8, x9, ?_, ?_, ?_, ?_, ?_, ?_, ?_, ?_, ?_, ?_, ?_⟩
    · rw [d2, hcb]; exact y1.trans e5.symm
    · rw [d3]; exact e2.symm
    · rw [d4]; exact e3.symm
    · rw [d5, hcb]; exact y4.trans e1.symm
    · rw [d7, hcb]
      show c.1 0 7 + lost = t.1 0 8 + lost
      rw [y5]
    · rw [d8, hcb]
      show c.1 0 8 + 1 = t.1 0 9 + 1
      rw [y6]
    · rw [d9, hcb]; exact y7.trans e10.symm
    · rw [d10]; exact e11.symm
    · rw [d11, hcb]; exact y9.trans e4.symm
    · rw [d12, hcb]; exact y10.trans e6.symm
    · rw [d13, hcb]; exact y11.trans e7.symm
theorem op_minor {c t : HS} (h : RR c t) : ∃ r c' t', pX4_minor c = some (r, c') ∧ pX5_minor t = some (r, t') ∧ RR c' t' := by
  obtain ⟨B, hS, hI⟩ := h
  obtain ⟨r, c2, t2, h1, h2, h3, h4, h5, h6, h7, h8, h9⟩ := main_Y hS hI
  unfold pX4_minor pX5_minor
  rw [h1, h2, bd2_s, bd2_s]
  refine ⟨r, c2, _, rfl, rfl, B, ?_⟩
  have e8 : (hs t2 0 9 (t2.1 0 9 + 1)).1 0 8 = t2.1 0 8 := rfl
  rw [e8, h3, h4]
  exact ⟨h8, h9⟩
