def yng (x : Int32) : Int32 := if x = 3 then 1 else x
theorem MY {s : HS} {A0 : Nat → Int32} : ∀ m i f A, i + m = 768 → m < f → (∀ k, k < 768 → A k = if k < i then yng (A0 k) else A0 k) → ∃ A', pX3_makeAllYoung_2 f (r7 s A) (nI i) = some (r7 s A') ∧ ∀ k, k < 768 → A' k = yng (A0 k) := by
  intro m
  induction m with
  | zero =>
    intro i f A hi hf h
    obtain ⟨f, rfl⟩ : ∃ g, f = g + 1 := ⟨f - 1, by omega⟩
    unfold pX3_makeAllYoung_2
    rw [l768, if_pos (nI_le (by omega) (by omega))]
    exact ⟨A, rfl, fun k hk => by rw [h k hk, if_pos (by omega)]⟩
  | succ m ih =>
    intro i f A hi hf h
    obtain ⟨f, rfl⟩ : ∃ g, f = g + 1 := ⟨f - 1, by omega⟩
    unfold pX3_makeAllYoung_2
    have e7 : (r7 s A).1 7 i = A i := rfl
    have hAi : A i = A0 i := by rw [h i (by omega), if_neg (by omega)]
    rw [l768, if_neg (nI_ge (by omega) (by omega)), ldA_n (by omega) (by omega), e7, hAi, nI_1]
    have nxt : ∀ A1 : Nat → Int32, A1 i = yng (A0 i) → (∀ k, k ≠ i → A1 k = A k) → ∀ k, k < 768 → A1 k = if k < i + 1 then yng (A0 k) else A0 k := by
      intro A1 g1 g2 k hk
      by_cases hki : k = i
      · subst hki; rw [g1, if_pos (by omega)]
      · rw [g2 k hki, h k hk]
        by_cases hlt : k < i
        · rw [if_pos hlt, if_pos (by omega)]
        · rw [if_neg hlt, if_neg (by omega)]
    by_cases h2 : A0 i = 3
    · rw [if_pos h2, stA_n (by omega) (by omega), r7_7]
      exact ih (i + 1) f (upd A i 1) (by omega) (by omega) (nxt _ (by rw [pk_us]; unfold yng; rw [if_pos h2]) (fun k hk => pk_un hk))
    · rw [if_neg h2]
      exact ih (i + 1) f A (by omega) (by omega) (nxt _ (by rw [hAi]; unfold yng; rw [if_neg h2]) (fun k hk => rfl))
theorem r7_6 (s : HS) (A : Nat → Int32) (v : Int32) : r7 (hs s 0 6 v) A = hs (r7 s A) 0 6 v := by
  refine hs_ext (fun k j => ?_) rfl
  by_cases h0 : k = 0
  · subst h0
    rw [hs_eq]
    show (hs s 0 6 v).1 0 j = _
    rw [hs_eq]
    rfl
  · rw [hs_nk h0]
    by_cases h7 : k = 7
    · subst h7; rfl
    · simp [r7, h7, hs, h0]
theorem main_A {c t : HS} {B : Nat} (hS : Sim c t B) (hI : Inv t B) : ∃ r c2 t2, pX0_collectAll c = some (r, c2) ∧ pX5_collect t 1 = some (r, t2) ∧ t2.1 0 8 = t.1 0 8 ∧ t2.1 0 9 = t.1 0 9 ∧ t2.1 0 10 = t.1 0 10 ∧ t2.1 0 4 = t.1 0 4 ∧ c2.1 0 11 = c.1 0 11 ∧ Sim c2 (hs (hs t2 0 10 (t.1 0 10 + 1)) 0 8 (t.1 0 8 + r)) B ∧ Inv (hs (hs t2 0 10 (t.1 0 10 + 1)) 0 8 (t.1 0 8 + r)) B := by
  have hb0 := bs_of hS hI
  obtain ⟨z1, z2, z3, z4, z5, z6, z7, z8, z9, y1, y2, y3, y4, y5, y6, y7, y8, y9, y10, y11⟩ := id hS
  obtain ⟨i1, i2, i3, i4, i5⟩ := id hI
  have hB := z1.2.1
  obtain ⟨A0, ha1, ha2⟩ := MY (s := hs (hs c 0 9 (c.1 0 9 + 1)) 0 6 0) (A0 := c.1 7) 768 0 FU (c.1 7) (by omega) (FU_ge (by omega)) (fun k hk => by rw [if_neg (by omega)])
  have ers : r7 (hs (hs c 0 9 (c.1 0 9 + 1)) 0 6 0) (c.1 7) = hs (hs c 0 9 (c.1 0 9 + 1)) 0 6 0 := (r7_self (hs (hs c 0 9 (c.1 0 9 + 1)) 0 6 0)).symm
  rw [ers, nI_0, r7_6] at ha1
  obtain ⟨cb, hcb⟩ : ∃ cb, cb = r7 (hs c 0 9 (c.1 0 9 + 1)) A0 := ⟨_, rfl⟩
  rw [← hcb] at ha1
  obtain ⟨tb1, htb⟩ : ∃ tb1, tb1 = hfill t 7 (64 * B) 0 := ⟨_, rfl⟩
  have h7 : ∀ a, a < 1536 → tb1.1 7 a = 0 ∨ tb1.1 7 a = 1 := by
    intro a ha
    rw [htb, hf_eq]
    split
    · exact Or.inl rfl
    · exact (i1.2.2.1 a ha).2
  have h7z : ∀ a, a < 64 * B → tb1.1 7 a = 0 := fun a ha => by rw [htb]; exact hf_lt ha
  have hL1 : Lay tb1 B := by
    obtain ⟨l1', l2', l3', l4', l5'⟩ := i1
    have h3 : ivBeg tb1 := fun a ha => ⟨by rw [htb]; exact (l3' a ha).1, h7 a ha⟩
    rw [htb] at h3 ⊢
    exact ⟨l1', l2', h3, l4', l5'⟩
  have e6 : tb1.1 6 = t.1 6 := by rw [htb]; rfl
  have hage : smAge cb tb1 := by
    intro k hk
    have e7 : cb.1 7 k = yng (c.1 7 k) := by rw [hcb]; exact ha2 k hk
    rw [e7, e6]
    have hz : t.1 6 (2 * k) = 1 → tb1.1 7 (2 * k) = 0 := fun h => h7z _ (th_lt i1 (by omega) h)
    rcases z2 k hk with ⟨q1, q2⟩ | ⟨q1, q2, q3⟩ | ⟨q1, q2, q3⟩
    · exact Or.inl ⟨by rw [q1]; decide, q2⟩
    · exact Or.inr (Or.inl ⟨by rw [q1]; decide, q2, hz q2⟩)
    · exact Or.inr (Or.inl ⟨by rw [q1]; decide, q2, hz q2⟩)
  have hb : Bs cb tb1 B := by
    obtain ⟨⟨g1, g2, g3, g4, g5, g6, g7⟩, grm, gag, grt, gst, ght⟩ := hb0
    have htbiff : ∀ a, tb cb B a ↔ (a < 1536 ∧ tb1.1 6 a = 1) := by
      intro a
      rw [e6, ← g5 a]
      have e7 : ∀ k, k < 768 → (cb.1 7 k = 0 ↔ c.1 7 k = 0) := by
        intro k hk
        have e : cb.1 7 k = yng (c.1 7 k) := by rw [hcb]; exact ha2 k hk
        rw [e]
        rcases z2 k hk with q | q | q <;> rw [q.1] <;> decide
      constructor
      · rintro ⟨w1, w2, w3⟩
        exact ⟨w1, w2, fun e => w3 ((e7 (a / 2) (by omega)).mpr e)⟩
      · rintro ⟨w1, w2, w3⟩
        exact ⟨w1, w2, fun e => w3 ((e7 (a / 2) (by omega)).mp e)⟩
    refine ⟨⟨by rw [hcb]; exact g1, hL1, ?_, ?_, htbiff, ?_, ?_⟩, ?_, hage, ?_, ?_, ?_⟩
    · rw [hcb, htb]; exact g3
    · rw [hcb, htb]; exact g4
    · rw [hcb, htb]; exact g6
    · rw [hcb, htb]; exact g7
    · rw [hcb, htb]; exact grm
    · rw [hcb, htb]; exact grt
    · rw [hcb, htb]; exact gst
    · rw [hcb, htb]; exact ght
  have hrf : ivRef tb1 := by rw [htb]; exact i2
  have hrt : ivRoot tb1 := by rw [htb]; exact i3
  have hsc : ivSc tb1 := by rw [htb]; exact i5
  have hrc : ∀ a, Reach tb1 1 a → Yg tb1 a := fun a h => reach_yg h
  obtain ⟨s1, A, Fd, n, p1, p3, hA⟩ := markA (L := cb.1 0 10) hb hrf hrt
  have hcA := collA (t := t) (B := B) i1.1 (by rw [← htb]; exact hL1) (by rw [← htb]; exact hrf) (by rw [← htb]; exact hrt) (by rw [← htb]; exact hsc) (by rw [← htb]; exact pt_of hb.1)
  rw [← htb] at hcA
  obtain ⟨F, D, q1, q2, q3⟩ := hcA
  have e9 : t.1 9 = tb1.1 9 := by rw [htb]; rfl
  have hL : cb.1 0 10 + sm (fun k => if A k = 2 then cb.1 5 k else 0) 768 = t.1 0 11 + sm (fun a => if PB (Reach tb1 1 a) then t.1 9 a else 0) (64 * B) := by
    have e10 : cb.1 0 10 = t.1 0 11 := by rw [hcb]; exact y8
    rw [e10, ls_eq hL1 hb.1.2.2.2.2.2.1 hA, e9]
  rw [hL] at p3
  obtain ⟨c2, r1, hCF⟩ := classEnd (Fd := Fd) (N := nI n) (L := t.1 0 11 + sm (fun a => if PB (Reach tb1 1 a) then t.1 9 a else 0) (64 * B)) hb hrc (fun k hk => by rw [hcb]; show c.1 3 k = 0 ∨ c.1 3 k = 1; rw [(z4 k hk).2.1]; exact (i1.2.2.2.1 k hk).2) hA
  obtain ⟨t2, r2, hMF⟩ := collEnd (D := D) (L := t.1 0 11 + sm (fun a => if PB (Reach tb1 1 a) then t.1 9 a else 0) (64 * B)) hL1 hsc q2 q3 hrc
  generalize nI (cnt (fun a => PB (Yg tb1 a ∧ ¬ Reach tb1 1 a)) (64 * B)) = lost at r1 r2 hCF
  have hyg : ∀ y, y < 1536 → tb1.1 6 y = 1 → Yg tb1 y := fun y hy h6 => ⟨hy, h6, h7z y (th_lt hL1 hy h6)⟩
  obtain ⟨hSI, hInv⟩ := end_SI hb (by rw [hcb, htb]; exact z5) (by rw [hcb, htb]; exact fun b hb => (z4 b hb).2.1) hrf hrt (fun x y hx hl he h6 => by
      have hy : y < 1536 := by
        obtain ⟨r, i, g1, g2, g3, g4, g5⟩ := he
        exact g4
      rcases hl.2 with w | w
      · rw [h7z x (th_lt hL1 hx hl.1)] at w; exact absurd w (by decide)
      · exact ⟨h6, Or.inr (reach_step w he (hyg y hy h6))⟩) (fun i y hi hy e h6 => ⟨h6, Or.inr (reach_seed (Or.inl ⟨i, hi, e⟩) (hyg y hy h6))⟩) hCF hMF
  obtain ⟨C1, C2, C3, C4, -, ⟨d0, d1, d2, d3, d4, d5, d7, d8, d9, d10, d11, d12, d13⟩⟩ := hCF
  obtain ⟨M1, M2, M3, M4, -, ⟨e0, e1, e2, e3, e4, e5, e6', e7', e8, e9', e10, e11⟩⟩ := hMF
  have q0 : ∀ j, tb1.1 0 j = t.1 0 j := fun j => by rw [htb]; rfl
  rw [q0] at e0 e1 e4 e5 e6' e7' e8 e9' e10
  refine ⟨lost, c2, t2, ?_, by rw [q1, r2], e8, e9', e10, e4, by rw [d11, hcb]; rfl, ?_, hInv⟩
  · unfold pX0_collectAll pfA
    show (bd1 (pX3_makeAllYoung (hs (hs c 0 9 (c.1 0 9 + 1)) 0 6 0)) fun c4 => bd1 (pX0_findHeld c4) fun c6 => bd1 (pX0_findReferred c6) fun c8 => bd2 (pX0_end c8) fun r11 c10 => some (r11, c10)) = some (lost, c2)
    unfold pX3_makeAllYoung
    rw [ha1, bd1_s, mkC_init, p1, bd1_s, p3, bd1_s, r1, bd2_s]
  · obtain ⟨x1, x2, x3, x4, x5, x6, x7, x8, x9⟩ := hSI
    refine ⟨x1, x2, x3, x4, x5, x6, x7, x8, x9, ?_, ?_, ?_, ?_, ?_, ?_, ?_, ?_, ?_, ?_, ?_⟩
    · rw [d2, hcb]; exact y1.trans e5.symm
    · rw [d3]; exact e2.symm
    · rw [d4]; exact e3.symm
    · rw [d5, hcb]; exact y4.trans e1.symm
    · rw [d7, hcb]
      show c.1 0 7 + lost = t.1 0 8 + lost
      rw [y5]
    · rw [d8, hcb]; exact y6.trans e9'.symm
    · rw [d9, hcb]
      show c.1 0 9 + 1 = t.1 0 10 + 1
      rw [y7]
    · rw [d10]; exact e11.symm
    · rw [d11, hcb]; exact y9.trans e4.symm
    · rw [d12, hcb]; exact y10.trans e6'.symm
    · rw [d13, hcb]; exact y11.trans e7'.symm
theorem op_full {c t : HS} (h : RR c t) : ∃ r c' t', pX4_full c = some (r, c') ∧ pX5_full t = some (r, t') ∧ RR c' t' := by
  obtain ⟨B, hS, hI⟩ := h
  obtain ⟨r, c2, t2, h1, h2, h3, h4, h5, h6, h7, h8, h9⟩ := main_A hS hI
  unfold pX4_full pX5_full
  rw [h1, h2, bd2_s, bd2_s]
  refine ⟨r, c2, _, rfl, rfl, B, ?_⟩
  have e8 : (hs t2 0 10 (t2.1 0 10 + 1)).1 0 8 = t2.1 0 8 := rfl
  rw [e8, h3, h5]
  exact ⟨h8, h9⟩
