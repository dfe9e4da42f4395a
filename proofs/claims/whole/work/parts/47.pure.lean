def TF (t t2 : HS) (r n a : Nat) (S Cl Br : Nat → Int32) : Prop :=
  (t2.1 1 = S ∧ t2.1 2 = Cl ∧ t2.1 4 = Br ∧ t2.1 3 = t.1 3 ∧ t2.1 11 = t.1 11 ∧ t2.1 12 = t.1 12 ∧ t2.1 13 = t.1 13) ∧
  (∀ j, t2.1 6 j = if j = a then 1 else t.1 6 j) ∧ (∀ j, t2.1 7 j = if j = a then 0 else t.1 7 j) ∧ (∀ j, t2.1 9 j = if j = a then nI r else t.1 9 j) ∧ (∀ j, t2.1 10 j = if j = a then nI n else t.1 10 j) ∧ (∀ k, t2.1 5 k = wfil (t.1 5) a r n 0 k) ∧
  (∀ j, t2.1 0 j = if j = 7 then t.1 0 7 + 1 else t.1 0 j)
def LF (c c2 : HS) (r n a : Nat) (fr : Bool) (S Br : Nat → Int32) : Prop :=
  (∀ k, k < 24 → c2.1 1 k = S k ∧ c2.1 3 k = Br k ∧ (isNew (r + n) a fr k → c2.1 2 k = (if kcl (r + n) = 5 then (if k = a / 64 then nI ((r + n + 63) / 64) else 0) else nI (kcl (r + n)))) ∧ (¬ isNew (r + n) a fr k → c2.1 2 k = c.1 2 k)) ∧
  (c2.1 8 = c.1 8 ∧ c2.1 9 = c.1 9 ∧ c2.1 10 = c.1 10 ∧ c2.1 11 = c.1 11) ∧
  (∀ j, c2.1 7 j = if j = a / 2 then 1 else c.1 7 j) ∧ (∀ j, c2.1 5 j = if j = a / 2 then nI r else c.1 5 j) ∧ (∀ j, c2.1 6 j = if j = a / 2 then nI n else c.1 6 j) ∧ (∀ k, c2.1 4 k = wfil (c.1 4) a r n 0 k) ∧
  (∀ j, c2.1 0 j = if j = 13 then c.1 0 13 + 1 else c.1 0 j)
theorem lay_SI {c c2 t t2 : HS} {B r n a : Nat} {fr : Bool} {S Cl Br : Nat → Int32} (hS : Sim c t B) (hI : Inv t B) (hs1 : 1 ≤ r + n) (hs2 : r + n ≤ 256) (hN : NB t B (r + n) a fr S Cl Br) (hT : TF t t2 r n a S Cl Br) (hC : LF c c2 r n a fr S Br) : Sim c2 t2 B ∧ Inv t2 B := by
  obtain ⟨z1, z2, z3, z4, z5, z6, z7, z8, z9, y1, y2, y3, y4, y5, y6, y7, y8, y9, y10, y11⟩ := id hS
  obtain ⟨i1, i2, i3, i4, i5⟩ := id hI
  obtain ⟨w1, w2, w3⟩ := i1.1
  obtain ⟨n1, n2, n3, n4, n5, n6, n7, n8⟩ := hN
  obtain ⟨⟨t1, tt2, t4, t3, t11, t12, t13⟩, T6, T7, T9, T10, T5, T0⟩ := hT
  obtain ⟨C1, ⟨c8, c9, c10, c11⟩, C7, C5, C6, C4, C0⟩ := hC
  have hkl := kcl_le (r + n)
  have ha : a < 1536 := by omega
  have hev : a % 2 = 0 := by
    by_cases h5 : kcl (r + n) = 5
    · have := (n6 h5).2.1; omega
    · have hk4 : kcl (r + n) ≤ 4 := by omega
      have h := (n5 hk4).2.2
      rcases pow5 hk4 with ⟨-, e⟩ | ⟨-, e⟩ | ⟨-, e⟩ | ⟨-, e⟩ | ⟨-, e⟩ <;> rw [e] at h <;> omega
  have old : ∀ k, k < 24 → ¬ t.1 1 k = 0 → ¬ isNew (r + n) a fr k := fun k _ h q => h (n3 k q).2.1
  have xa : ∀ x, t.1 6 x = 1 → x ≠ a := fun x h e => by rw [e, n2] at h; exact absurd h (by decide)
  have new0 : kcl (r + n) = 5 → isNew (r + n) a fr (a / 64) := fun h5 => ⟨(n6 h5).1, Or.inr ⟨h5, Nat.le_refl _, by omega⟩⟩
  have hcA : inCell t2 B a r n := by
    unfold inCell
    rw [t1, tt2]
    by_cases h5 : kcl (r + n) = 5
    · right
      have h32 : 32 < r + n := by
        by_cases h : r + n ≤ 32
        · have := (kcl_small h).1; omega
        · omega
      refine ⟨?_, (n6 h5).2.1, h32, (n6 h5).2.2, fun k k1 k2 => ?_⟩
      · rw [(n3 _ (new0 h5)).2.2.2, if_pos h5, if_pos rfl]
      · rw [(n3 k ⟨(n6 h5).1, Or.inr ⟨h5, by omega, k2⟩⟩).2.2.2, if_pos h5, if_neg (by omega)]
    · left
      have hk4 : kcl (r + n) ≤ 4 := by omega
      have h32 : r + n ≤ 32 := by
        by_cases h : r + n ≤ 32
        · exact h
        · exact absurd (kcl_5 (by omega)) h5
      exact ⟨(n5 hk4).1, kcl (r + n), hk4, (n5 hk4).2.1, (n5 hk4).2.2, (kcl_small h32).2⟩
  have hcX : ∀ x r' n', x < 1536 → inCell t B x r' n' → inCell t2 B x r' n' := by
    intro x r' n' hx h
    unfold inCell
    rw [t1, tt2]
    rcases h with ⟨b1, k, hk, b2, b3, b4⟩ | ⟨b1, b2, b3, b4, b5⟩
    · obtain ⟨q1, q2, q3⟩ := n4 (x / 64) (by omega) (old _ (by omega) (by rw [b1]; decide))
      exact Or.inl ⟨by rw [q1]; exact b1, k, hk, by rw [q2]; exact b2, b3, b4⟩
    · obtain ⟨q1, q2, q3⟩ := n4 (x / 64) (by omega) (old _ (by omega) (by rw [b1]; decide))
      refine Or.inr ⟨by rw [q1]; exact b1, b2, b3, b4, fun k k1 k2 => ?_⟩
      rw [(n4 k (by omega) (old _ (by omega) (by rw [b5 k k1 k2]; decide))).1]
      exact b5 k k1 k2
  have hth : ∀ x, x < 1536 → t2.1 6 x = 1 → x = a ∨ (x ≠ a ∧ t.1 6 x = 1) := by
    intro x hx h
    rw [T6 x] at h
    by_cases e : x = a
    · exact Or.inl e
    · rw [if_neg e] at h; exact Or.inr ⟨e, h⟩
  have hTh : ivTh t2 B := by
    intro x hx h
    rcases hth x hx h with e | ⟨e, h0⟩
    · subst e
      exact ⟨r, n, by rw [T9 x, if_pos rfl], by rw [T10 x, if_pos rfl], hs1, hs2, hcA⟩
    · obtain ⟨r', n', a1, a2, a3, a4, a5⟩ := i1.2.2.2.2.1 x hx h0
      exact ⟨r', n', by rw [T9 x, if_neg e]; exact a1, by rw [T10 x, if_neg e]; exact a2, a3, a4, hcX x r' n' hx a5⟩
  have hM2 : MW t2 B := ⟨w1, w2, by rw [T0 0, if_neg (by decide)]; exact w3⟩
  have hend : a + (r + n) ≤ 1536 := end_le hM2 ha hcA hs2 hs1
  have hword : ∀ x r' n' i, x < 1536 → x ≠ a → t.1 6 x = 1 → inCell t B x r' n' → i < r' + n' → t2.1 5 (x + i) = t.1 5 (x + i) := by
    intro x r' n' i hx e h0 hc hi
    rw [T5]
    unfold wfil
    rw [if_neg]
    rintro ⟨q1, q2⟩
    exact e (th_disj (hcX x r' n' hx hc) hcA (i := i) (j := x + i - a) hi (by omega) (by omega))
  have hptr : ∀ z, ptr t z → ptr t2 z := by
    rintro z (q | ⟨y, q1, q2, q3⟩)
    · exact Or.inl q
    · refine Or.inr ⟨y, q1, q2, ?_⟩
      rw [T6 y, if_neg (xa y q3)]
      exact q3
  have h64 : ∀ k, k < 24 → t.1 1 k = 2 → 64 * k ≠ a := fun k hk h => xa _ (i1.2.2.2.2.2.2.1 k hk h)
  refine ⟨⟨?_, ?_, ?_, ?_, ?_, ?_, ?_, ?_, ?_, ?_⟩, ⟨hM2, ?_, ?_, ?_, hTh, ?_, ?_, ?_⟩, ?_, ?_, ?_, ?_⟩
  · exact ⟨z1.1, z1.2.1, by rw [C0 0, if_neg (by decide)]; exact z1.2.2.1, by rw [C0 1, if_neg (by decide)]; exact z1.2.2.2⟩
  · intro k hk
    rw [C7 k, T6 (2 * k), T7 (2 * k)]
    by_cases e : k = a / 2
    · rw [if_pos e, if_pos (by omega), if_pos (by omega)]
      exact Or.inr (Or.inl ⟨rfl, rfl, rfl⟩)
    · rw [if_neg e, if_neg (by omega), if_neg (by omega)]
      exact z2 k hk
  · intro k hk
    rw [C5 k, C6 k, T9 (2 * k), T10 (2 * k)]
    by_cases e : k = a / 2
    · rw [if_pos e, if_pos e, if_pos (by omega), if_pos (by omega)]
      exact ⟨rfl, rfl⟩
    · rw [if_neg e, if_neg e, if_neg (by omega), if_neg (by omega)]
      exact z3 k hk
  · intro b hb
    rw [(C1 b hb).1, (C1 b hb).2.1, c9, t1, t4, t3]
    exact ⟨rfl, rfl, (z4 b hb).2.2⟩
  · intro b hb
    rw [t1, tt2]
    by_cases hn : isNew (r + n) a fr b
    · have hSb := (n3 b hn).2.2.2
      rw [(C1 b hb).2.2.1 hn, hSb]
      by_cases h5 : kcl (r + n) = 5
      · rw [if_pos h5, if_pos h5]
        by_cases e : b = a / 64
        · rw [if_pos e, if_pos e]
          have e64 : 64 * b = a := by have := (n6 h5).2.1; omega
          refine ⟨fun h => absurd h (by decide), fun _ => ⟨r, n, ?_, ?_, hs2, rfl⟩, fun h => absurd h (by decide)⟩
          · rw [T9, if_pos e64]
          · rw [T10, if_pos e64]
        · rw [if_neg e, if_neg e]
          exact ⟨fun h => absurd h (by decide), fun h => absurd h (by decide), fun _ => rfl⟩
      · rw [if_neg h5, if_neg h5]
        have hk4 : kcl (r + n) ≤ 4 := by omega
        have eb : b = a / 64 := by
          rcases hn.2 with q | q
          · exact q.2
          · exact absurd q.1 h5
        refine ⟨fun _ => ?_, fun h => absurd h (by decide), fun h => absurd h (by decide)⟩
        rw [eb]
        exact (n5 hk4).2.1.symm
    · obtain ⟨q1, q2, q3⟩ := n4 b hb hn
      rw [(C1 b hb).2.2.2 hn, q1, q2]
      refine ⟨(z5 b hb).1, fun h => ?_, (z5 b hb).2.2⟩
      obtain ⟨r', n', x1, x2, x3, x4⟩ := (z5 b hb).2.1 h
      exact ⟨r', n', by rw [T9, if_neg (h64 b hb h)]; exact x1, by rw [T10, if_neg (h64 b hb h)]; exact x2, x3, x4⟩
  · intro q hq
    rw [C4, T5]
    unfold wfil
    rw [z6 q hq]
  · intro i hi
    rw [c10, t11]; exact z7 i hi
  · intro i hi
    rw [c11, t12]; exact z8 i hi
  · intro i hi
    rw [c8, t13]; exact z9 i hi
  · refine ⟨?_, ?_, ?_, ?_, ?_, ?_, ?_, ?_, ?_, ?_, ?_⟩ <;> rw [C0, T0]
    · exact y1
    · exact y2
    · exact y3
    · exact y4
    · exact y5
    · exact y6
    · exact y7
    · exact y8
    · exact y9
    · exact y10
    · show c.1 0 13 + 1 = t.1 0 7 + 1
      rw [y11]
  · intro b hb
    rw [t1, t3]
    by_cases hn : isNew (r + n) a fr b
    · have hSb := (n3 b hn).2.2.2
      have hbB := (n3 b hn).1
      refine ⟨?_, fun h => by omega, fun h => by omega⟩
      rw [hSb]
      split
      · split
        · exact Or.inr (Or.inr (Or.inl rfl))
        · exact Or.inr (Or.inr (Or.inr rfl))
      · exact Or.inr (Or.inl rfl)
    · rw [(n4 b hb hn).1]
      exact i1.2.1 b hb
  · intro x hx
    rw [T6 x, T7 x]
    by_cases e : x = a
    · rw [if_pos e, if_pos e]
      exact ⟨Or.inr rfl, Or.inl rfl⟩
    · rw [if_neg e, if_neg e]
      exact i1.2.2.1 x hx
  · intro b hb
    rw [t3, t4]
    refine ⟨(i1.2.2.2.1 b hb).1, ?_⟩
    by_cases hn : isNew (r + n) a fr b
    · exact Or.inl (n3 b hn).2.2.1
    · rw [(n4 b hb hn).2.2]
      exact (i1.2.2.2.1 b hb).2
  · intro b hb h
    rw [t1] at h
    rw [tt2]
    by_cases hn : isNew (r + n) a fr b
    · rw [(n3 b hn).2.2.2] at h
      by_cases h5 : kcl (r + n) = 5
      · rw [if_pos h5] at h
        split at h
        · exact absurd h (by decide)
        · exact absurd h (by decide)
      · have hk4 : kcl (r + n) ≤ 4 := by omega
        have eb : b = a / 64 := by
          rcases hn.2 with q | q
          · exact q.2
          · exact absurd q.1 h5
        rw [eb]
        exact ⟨kcl (r + n), hk4, (n5 hk4).2.1⟩
    · rw [(n4 b hb hn).1] at h
      rw [(n4 b hb hn).2.1]
      exact i1.2.2.2.2.2.1 b hb h
  · intro b hb h
    rw [t1] at h
    rw [T6]
    by_cases hn : isNew (r + n) a fr b
    · rw [(n3 b hn).2.2.2] at h
      by_cases h5 : kcl (r + n) = 5
      · rw [if_pos h5] at h
        by_cases e : b = a / 64
        · have e64 : 64 * b = a := by have := (n6 h5).2.1; omega
          rw [if_pos e64]
        · rw [if_neg e] at h
          exact absurd h (by decide)
      · rw [if_neg h5] at h
        exact absurd h (by decide)
    · rw [(n4 b hb hn).1] at h
      rw [if_neg (h64 b hb h)]
      exact i1.2.2.2.2.2.2.1 b hb h
  · intro b hb h
    rw [t1] at h ⊢
    by_cases hn : isNew (r + n) a fr b
    · rw [(n3 b hn).2.2.2] at h
      by_cases h5 : kcl (r + n) = 5
      · rw [if_pos h5] at h
        by_cases e : b = a / 64
        · rw [if_pos e] at h
          exact absurd h (by decide)
        · have e64 : 64 * (a / 64) = a := by have := (n6 h5).2.1; omega
          rcases hn.2 with q | q
          · omega
          · refine ⟨a / 64, r, n, by omega, ?_, by rw [T9, if_pos e64], by rw [T10, if_pos e64], hs2, q.2.2⟩
            rw [(n3 _ (new0 h5)).2.2.2, if_pos h5, if_pos rfl]
      · rw [if_neg h5] at h
        exact absurd h (by decide)
    · rw [(n4 b hb hn).1] at h
      obtain ⟨f, r', n', f1, f2, f3, f4, f5, f6⟩ := i1.2.2.2.2.2.2.2 b hb h
      refine ⟨f, r', n', f1, ?_, by rw [T9, if_neg (h64 f (by omega) f2)]; exact f3, by rw [T10, if_neg (h64 f (by omega) f2)]; exact f4, f5, f6⟩
      rw [(n4 f (by omega) (old f (by omega) (by rw [f2]; decide))).1]
      exact f2
  · intro x r' i hx h hr h256 hi
    rcases hth x hx h with e | ⟨e, h0⟩
    · subst e
      rw [T9 x, if_pos rfl] at hr
      have : r = r' := (nI_eq (by omega) (by omega)).mp hr
      subst this
      left
      rw [T5]
      unfold wfil
      rw [if_pos (by omega), if_pos (by omega)]
    · rw [T9 x, if_neg e] at hr
      obtain ⟨r2, n2', a1, a2, a3, a4, a5⟩ := i1.2.2.2.2.1 x hx h0
      have : r' = r2 := (nI_eq (by omega) (by omega)).mp (hr.symm.trans a1)
      subst this
      rw [hword x r' n2' i hx e h0 a5 (by omega)]
      exact hptr _ (i2 x r' i hx h0 hr h256 hi)
  · intro i hi
    rw [t11]
    exact hptr _ (i3 i hi)
  · intro x r' i y hx h1 h2 h3 h4 h5 hy h6 h7 h8
    have e : x ≠ a := fun e => by rw [T7 x, if_pos e] at h2; exact absurd h2 (by decide)
    rw [T6 x, if_neg e] at h1
    rw [T7 x, if_neg e] at h2
    rw [T9 x, if_neg e] at h3
    obtain ⟨r2, n2', a1, a2, a3, a4, a5⟩ := i1.2.2.2.2.1 x hx h1
    have er : r' = r2 := (nI_eq (by omega) (by omega)).mp (h3.symm.trans a1)
    subst er
    rw [hword x r' n2' i hx e h1 a5 (by omega)] at h6
    have hy1 := ptr_some (i2 x r' i hx h1 h3 h4 h5) h6 hy
    have ey := xa y hy1
    rw [T7 y, if_neg ey] at h8
    have hr := i4 x r' i y hx h1 h2 h3 h4 h5 hy h6 hy1 h8
    rcases hr with ⟨q1, q2 | ⟨k, m, q2, q3, q4, q5⟩⟩ | ⟨q1, j, q2, q3⟩
    · exact Or.inl ⟨by rw [T0, if_neg (by decide)]; exact q1, Or.inl (by rw [T0, if_neg (by decide)]; exact q2)⟩
    · exact Or.inl ⟨by rw [T0, if_neg (by decide)]; exact q1, Or.inr ⟨k, m, by rw [T0, if_neg (by decide)]; exact q2, q3, q4, by rw [t13]; exact q5⟩⟩
    · exact Or.inr ⟨by rw [T0, if_neg (by decide)]; exact q1, j, q2, by rw [t3]; exact q3⟩
  · obtain ⟨j1, j2, j3, j4, j5⟩ := i5
    refine ⟨?_, ?_, ?_, ?_, ?_⟩
    · rw [T0, if_neg (by decide)]; exact j1
    · rw [T0, if_neg (by decide)]; exact j2
    · rw [T0, if_neg (by decide)]; exact j3
    · rw [T0, if_neg (by decide)]; exact j4
    · rw [T0, if_neg (by decide)]; exact j5
theorem layM {t : HS} {B r n a : Nat} {S Cl Br : Nat → Int32} (ha : a < 1536) (hend : a + (r + n) ≤ 1536) (hs2 : r + n ≤ 256) : ∃ t2, pX5_make_151 (f124 t S Cl Br) (nI r) (nI n) (nI a) = some (nI a, t2) ∧ TF t t2 r n a S Cl Br := by
  unfold pX5_make_151
  rw [if_neg (fun e => neg1 (a := a) (by omega) e.symm), stZ_n ha (by omega) (Or.inr rfl), stZ_n ha (by omega) (Or.inl rfl), stA_n ha (by omega), stA_n ha (by omega)]
  obtain ⟨W, p1, p2⟩ := make190 (t := hs (hs (hs (hs (f124 t S Cl Br) 6 a 1) 7 a 0) 9 a (nI r)) 10 a (nI n)) (a := a) (r := r) (n := n) hs2 hend (r + n) 0 FU (t.1 5) (by omega) (FU_ge (by omega))
  have e : r5 (hs (hs (hs (hs (f124 t S Cl Br) 6 a 1) 7 a 0) 9 a (nI r)) 10 a (nI n)) (t.1 5) = hs (hs (hs (hs (f124 t S Cl Br) 6 a 1) 7 a 0) 9 a (nI r)) 10 a (nI n) := (r5_self (hs (hs (hs (hs (f124 t S Cl Br) 6 a 1) 7 a 0) 9 a (nI r)) 10 a (nI n))).symm
  rw [e, nI_0] at p1
  refine ⟨_, p1, ⟨rfl, rfl, rfl, rfl, rfl, rfl, rfl⟩, fun j => ?_, fun j => ?_, fun j => ?_, fun j => ?_, p2, fun j => ?_⟩
  · exact hs_eq (f124 t S Cl Br) 6 a j 1
  · exact hs_eq (hs (f124 t S Cl Br) 6 a 1) 7 a j 0
  · exact hs_eq (hs (hs (f124 t S Cl Br) 6 a 1) 7 a 0) 9 a j (nI r)
  · exact hs_eq (hs (hs (hs (f124 t S Cl Br) 6 a 1) 7 a 0) 9 a (nI r)) 10 a j (nI n)
  · exact hs_eq (r5 (hs (hs (hs (hs (f124 t S Cl Br) 6 a 1) 7 a 0) 9 a (nI r)) 10 a (nI n)) W) 0 7 j (t.1 0 7 + 1)
theorem lay25 {c : HS} {r n a : Nat} {S Dl Br : Nat → Int32} (ha : a < 1536) (hend : a + (r + n) ≤ 1536) (hs2 : r + n ≤ 256) : ∃ W, pX3_lay_25 (f3 c S Dl Br) (nI a) (nI r) (nI n) = some (r4 (hs (hs (hs (f3 c S Dl Br) 5 (a / 2) (nI r)) 6 (a / 2) (nI n)) 7 (a / 2) 1) W) ∧ ∀ k, W k = wfil (c.1 4) a r n 0 k := by
  unfold pX3_lay_25
  rw [l2, pk_div (by omega) (by omega) (by omega), stA_n (by omega) (by omega), stA_n (by omega) (by omega), stA_n (by omega) (by omega)]
  obtain ⟨W, p1, p2⟩ := lay55 (c := hs (hs (hs (f3 c S Dl Br) 5 (a / 2) (nI r)) 6 (a / 2) (nI n)) 7 (a / 2) 1) (a := a) (r := r) (n := n) hs2 hend (r + n) 0 FU (c.1 4) (by omega) (FU_ge (by omega))
  have e : r4 (hs (hs (hs (f3 c S Dl Br) 5 (a / 2) (nI r)) 6 (a / 2) (nI n)) 7 (a / 2) 1) (c.1 4) = hs (hs (hs (f3 c S Dl Br) 5 (a / 2) (nI r)) 6 (a / 2) (nI n)) 7 (a / 2) 1 := (r4_self (hs (hs (hs (f3 c S Dl Br) 5 (a / 2) (nI r)) 6 (a / 2) (nI n)) 7 (a / 2) 1)).symm
  rw [e, nI_0] at p1
  exact ⟨W, p1, p2⟩
theorem layC {c t : HS} {B r n a : Nat} {fr : Bool} {S Cl Br : Nat → Int32} (hS : Sim c t B) (hs1 : 1 ≤ r + n) (hs2 : r + n ≤ 256) (hN : NB t B (r + n) a fr S Cl Br) (hend : a + (r + n) ≤ 1536) : ∃ c5 c2, pX3_lay c (nI a) (nI r) (nI n) = some c5 ∧ c2 = hs c5 0 13 (c5.1 0 13 + 1) ∧ LF c c2 r n a fr S Br := by
  have hB := hS.1.2.1
  obtain ⟨n1, n2, n3, n4, n5, n6, n7, n8⟩ := hN
  have ha : a < 1536 := by omega
  have key : ∃ Sc Dl Bc, (pX3_lay c (nI a) (nI r) (nI n) = pX3_lay_25 (f3 c Sc Dl Bc) (nI a) (nI r) (nI n)) ∧ ∀ k, k < 24 → Sc k = S k ∧ Bc k = Br k ∧ (isNew (r + n) a fr k → Dl k = (if kcl (r + n) = 5 then (if k = a / 64 then nI ((r + n + 63) / 64) else 0) else nI (kcl (r + n)))) ∧ (¬ isNew (r + n) a fr k → Dl k = c.1 2 k) := by
    unfold pX3_lay
    rw [l64, pk_div (by omega) (by omega) (by omega), ldA_n (by omega) (by omega), (hS.2.2.2.1 (a / 64) (by omega)).1]
    cases fr with
    | true =>
      obtain ⟨q1, q2⟩ := n7 rfl
      rw [if_pos q1, nI_add]
      obtain ⟨Sc, Dl, Bc, p1, p2⟩ := takeC (c := c) (b := a / 64) (s := r + n) (by omega) hs1 hs2 (fun h5 => by have := (n6 h5).2.2; omega)
      rw [show 64 * (a / 64) = a by omega] at p2
      rw [p1, bd1_s]
      refine ⟨Sc, Dl, Bc, rfl, fun k hk => ?_⟩
      by_cases hn : isNew (r + n) a true k
      · obtain ⟨x1, x2, x3⟩ := (p2 k).1 hn
        rw [x1, x2, x3, (n3 k hn).2.2.2, (n3 k hn).2.2.1]
        exact ⟨rfl, rfl, fun _ => rfl, fun q => absurd hn q⟩
      · obtain ⟨x1, x2, x3⟩ := (p2 k).2 hn
        rw [x1, x2, x3, (n4 k hk hn).1, (n4 k hk hn).2.2, (hS.2.2.2.1 k hk).1, (hS.2.2.2.1 k hk).2.1]
        exact ⟨rfl, rfl, fun q => absurd q hn, fun _ => rfl⟩
    | false =>
      rw [n8 rfl, if_neg (by decide)]
      refine ⟨c.1 1, c.1 2, c.1 3, by rw [← f3_self c], fun k hk => ?_⟩
      have hn : ¬ isNew (r + n) a false k := fun q => absurd q.1 (by decide)
      rw [(n4 k hk hn).1, (n4 k hk hn).2.2, (hS.2.2.2.1 k hk).1, (hS.2.2.2.1 k hk).2.1]
      exact ⟨rfl, rfl, fun q => absurd q hn, fun _ => rfl⟩
  obtain ⟨Sc, Dl, Bc, k1, k2⟩ := key
  obtain ⟨W, p1, p2⟩ := lay25 (c := c) (S := Sc) (Dl := Dl) (Br := Bc) ha hend hs2
  refine ⟨_, _, k1.trans p1, rfl, fun k hk => k2 k hk, ⟨rfl, rfl, rfl, rfl⟩, fun j => ?_, fun j => ?_, fun j => ?_, p2, fun j => ?_⟩
  · exact hs_eq (hs (hs (f3 c Sc Dl Bc) 5 (a / 2) (nI r)) 6 (a / 2) (nI n)) 7 (a / 2) j 1
  · exact hs_eq (f3 c Sc Dl Bc) 5 (a / 2) j (nI r)
  · exact hs_eq (hs (f3 c Sc Dl Bc) 5 (a / 2) (nI r)) 6 (a / 2) j (nI n)
  · exact hs_eq (r4 (hs (hs (hs (f3 c Sc Dl Bc) 5 (a / 2) (nI r)) 6 (a / 2) (nI n)) 7 (a / 2) 1) W) 0 13 j (c.1 0 13 + 1)
