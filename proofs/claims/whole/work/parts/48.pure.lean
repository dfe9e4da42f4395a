def kMk (r n z : Int32) (c2 : HS) : Option (Int32 × HS) := if z = -1 then some ((-104), c2) else bd1 (pX3_lay c2 z r n) fun c5 => pfA c5 13 ((c5.1 0 13) + 1) fun c6 => some (z, c6)
def PR (t : HS) (B s : Nat) (z : Int32) (tm : HS) : Prop := (z = -1 ∧ tm = t) ∨ ∃ a fr S Cl Br, z = nI a ∧ tm = f124 t S Cl Br ∧ NB t B s a fr S Cl Br
theorem pr_of {c t : HS} {B s : Nat} {mi : Int32} (hS : Sim c t B) (hI : Inv t B) (h1 : 1 ≤ s) (h256 : s ≤ 256) : ∃ z tm, pX3_placeFor c (nI s) mi = some z ∧ pX5_place t (nI s) mi = some (z, tm) ∧ PR t B s z tm := by
  rcases place_main (mi := mi) hS hI h1 h256 with ⟨p1, p2⟩ | ⟨a, fr, S, Cl, Br, p1, p2, p3⟩
  · exact ⟨-1, t, p1, p2, Or.inl ⟨rfl, rfl⟩⟩
  · exact ⟨nI a, _, p1, p2, Or.inr ⟨a, fr, S, Cl, Br, rfl, rfl, p3⟩⟩
theorem nb_end {t : HS} {B r n a : Nat} {fr : Bool} {S Cl Br : Nat → Int32} (hB : B ≤ 24) (hs2 : r + n ≤ 256) (hN : NB t B (r + n) a fr S Cl Br) : a + (r + n) ≤ 1536 := by
  obtain ⟨n1, n2, n3, n4, n5, n6, n7, n8⟩ := hN
  have hkl := kcl_le (r + n)
  by_cases h5 : kcl (r + n) = 5
  · have := n6 h5; omega
  · have hk4 : kcl (r + n) ≤ 4 := by omega
    have h32 : r + n ≤ 32 := by
      by_cases h : r + n ≤ 32
      · exact h
      · exact absurd (kcl_5 (by omega)) h5
    have h1 := (n5 hk4).2.2
    have h2 := (kcl_small h32).2
    rcases pow5 hk4 with ⟨-, e⟩ | ⟨-, e⟩ | ⟨-, e⟩ | ⟨-, e⟩ | ⟨-, e⟩ <;> rw [e] at h1 h2 <;> omega
theorem mkFin {c t : HS} {B r n : Nat} {z : Int32} {tm : HS} (hS : Sim c t B) (hI : Inv t B) (hs1 : 1 ≤ r + n) (hs2 : r + n ≤ 256) (hP : PR t B (r + n) z tm) : ∃ x c' t', kMk (nI r) (nI n) z c = some (x, c') ∧ pX5_make_151 tm (nI r) (nI n) z = some (x, t') ∧ RR c' t' := by
  have hB := hS.1.2.1
  rcases hP with ⟨rfl, rfl⟩ | ⟨a, fr, S, Cl, Br, rfl, rfl, hN⟩
  · unfold kMk pX5_make_151
    rw [if_pos rfl, if_pos rfl]
    exact ⟨_, _, _, rfl, rfl, B, hS, hI⟩
  · have hend := nb_end hB hs2 hN
    have ha : a < 1536 := by have := hN.1; omega
    obtain ⟨t2, q1, q2⟩ := layM (t := t) (B := B) (S := S) (Cl := Cl) (Br := Br) ha hend hs2
    obtain ⟨c5, c2, p1, p2, p3⟩ := layC hS hs1 hs2 hN hend
    unfold kMk
    rw [if_neg (fun e => neg1 (a := a) (by omega) e.symm), p1, bd1_s, q1]
    refine ⟨nI a, c2, t2, ?_, rfl, B, lay_SI hS hI hs1 hs2 hN q2 p3⟩
    unfold pfA
    rw [p2]
theorem pr_ne {t : HS} {B s : Nat} {z : Int32} {tm : HS} (hB : B ≤ 24) (h : PR t B s z tm) (hz : ¬ z = -1) : ∃ a fr S Cl Br, z = nI a ∧ tm = f124 t S Cl Br ∧ NB t B s a fr S Cl Br := by
  rcases h with ⟨e, -⟩ | h
  · exact absurd e hz
  · exact h
theorem st70 {c t : HS} {B r n : Nat} {z : Int32} {tm : HS} (hS : Sim c t B) (hI : Inv t B) (hs1 : 1 ≤ r + n) (hs2 : r + n ≤ 256) (hP : PR t B (r + n) z tm) : ∃ x c' t', bd2 (pX4_placeFor_70 c (nI (r + n)) z) (kMk (nI r) (nI n)) = some (x, c') ∧ pX5_make_137 tm (nI r) (nI n) z = some (x, t') ∧ RR c' t' := by
  unfold pX4_placeFor_70 pX5_make_137
  by_cases hz : z = -1
  · have htm : tm = t := by
      rcases hP with ⟨-, e⟩ | ⟨a, fr, S, Cl, Br, e, -, hN⟩
      · exact e
      · rw [hz] at e
        exact absurd e (neg1 (by have := hN.1; have := hS.1.2.1; omega))
    subst htm
    rw [if_pos hz, if_pos hz, nI_add]
    obtain ⟨z0, tm0, p1, p2, p3⟩ := pr_of (mi := 0) hS hI hs1 hs2
    rw [p1, p2, bd1_s, bd2_s, bd2_s]
    exact mkFin hS hI hs1 hs2 p3
  · rw [if_neg hz, if_neg hz, bd2_s]
    exact mkFin hS hI hs1 hs2 hP
theorem st40 {c t : HS} {B r n : Nat} {z : Int32} {tm : HS} (hS : Sim c t B) (hI : Inv t B) (hs1 : 1 ≤ r + n) (hs2 : r + n ≤ 256) (hP : PR t B (r + n) z tm) : ∃ x c' t', bd2 (pX4_placeFor_40 c (nI (r + n)) z) (kMk (nI r) (nI n)) = some (x, c') ∧ pX5_make_92 tm (nI r) (nI n) z = some (x, t') ∧ RR c' t' := by
  have h11 : c.1 0 11 = t.1 0 4 := hS.2.2.2.2.2.2.2.2.2.2.2.2.2.2.2.2.2.1
  unfold pX4_placeFor_40 pX5_make_92
  by_cases hz : z = -1
  · have htm : tm = t := by
      rcases hP with ⟨-, e⟩ | ⟨a, fr, S, Cl, Br, e, -, hN⟩
      · exact e
      · rw [hz] at e
        exact absurd e (neg1 (by have := hN.1; have := hS.1.2.1; omega))
    subst htm
    rw [if_pos hz, if_pos hz, h11]
    by_cases ha : tm.1 0 4 = 0
    · rw [if_pos ha, if_pos ha]
      exact st70 hS hI hs1 hs2 hP
    · rw [if_neg ha, if_neg ha]
      obtain ⟨x, c2, t2, h1, h2, h3, h4, h5, h6, h7, h8, h9⟩ := main_A hS hI
      rw [h1, h2, bd2_s, bd2_s]
      have e : hs (hs t2 0 8 (tm.1 0 8 + x)) 0 10 ((hs t2 0 8 (tm.1 0 8 + x)).1 0 10 + 1) = hs (hs t2 0 10 (tm.1 0 10 + 1)) 0 8 (tm.1 0 8 + x) := by
        have e10 : (hs t2 0 8 (tm.1 0 8 + x)).1 0 10 = tm.1 0 10 := h5
        rw [e10]
        exact hs_comm t2 0 8 10 _ _ (by decide)
      unfold pfA
      show ∃ x' c' t', bd2 (bd1 (pX3_placeFor c2 (nI (r + n)) 1) fun r8 => pX4_placeFor_70 c2 (nI (r + n)) r8) (kMk (nI r) (nI n)) = some (x', c') ∧ (bd2 (pX5_place (hs (hs t2 0 8 (tm.1 0 8 + x)) 0 10 ((hs t2 0 8 (tm.1 0 8 + x)).1 0 10 + 1)) (nI r + nI n) 1) fun r28 c27 => pX5_make_137 c27 (nI r) (nI n) r28) = some (x', t') ∧ RR c' t'
      rw [e, nI_add]
      obtain ⟨z0, tm0, p1, p2, p3⟩ := pr_of (mi := 1) h8 h9 hs1 hs2
      rw [p1, p2, bd1_s, bd2_s]
      exact st70 h8 h9 hs1 hs2 p3
  · rw [if_neg hz, if_neg hz]
    exact st70 hS hI hs1 hs2 hP
theorem op_makeOk {c t : HS} {r n : Nat} (h : RR c t) (hs1 : 1 ≤ r + n) (hs2 : r + n ≤ 256) : ∃ x c' t', bd2 (pX4_placeFor c (nI (r + n))) (kMk (nI r) (nI n)) = some (x, c') ∧ (bd2 (pX5_place t (nI (r + n)) 1) fun r33 c32 => if r33 = ((-1)) then if (c32.1 0 4) = 0 then pX5_make_92 c32 (nI r) (nI n) r33 else bd2 (pX5_collect c32 0) fun r36 c35 => pfA c35 8 ((c32.1 0 8) + r36) fun c37 => pfA c37 9 ((c37.1 0 9) + 1) fun c38 => bd2 (pX5_place c38 (nI (r + n)) 1) fun r41 c40 => pX5_make_92 c40 (nI r) (nI n) r41 else pX5_make_92 c32 (nI r) (nI n) r33) = some (x, t') ∧ RR c' t' := by
  obtain ⟨B, hS, hI⟩ := h
  have h11 : c.1 0 11 = t.1 0 4 := hS.2.2.2.2.2.2.2.2.2.2.2.2.2.2.2.2.2.1
  obtain ⟨z, tm, p1, p2, hP⟩ := pr_of (mi := 1) hS hI hs1 hs2
  unfold pX4_placeFor
  rw [p1, p2, bd1_s, bd2_s]
  by_cases hz : z = -1
  · have htm : tm = t := by
      rcases hP with ⟨-, e⟩ | ⟨a, fr, S, Cl, Br, e, -, hN⟩
      · exact e
      · rw [hz] at e
        exact absurd e (neg1 (by have := hN.1; have := hS.1.2.1; omega))
    subst htm
    rw [if_pos hz, if_pos hz, h11]
    by_cases ha : tm.1 0 4 = 0
    · rw [if_pos ha, if_pos ha]
      exact st40 hS hI hs1 hs2 hP
    · rw [if_neg ha, if_neg ha]
      obtain ⟨x, c2, t2, h1, h2, h3, h4, h5, h6, h7, h8, h9⟩ := main_Y hS hI
      rw [h1, h2, bd2_s, bd2_s]
      have e : hs (hs t2 0 8 (tm.1 0 8 + x)) 0 9 ((hs t2 0 8 (tm.1 0 8 + x)).1 0 9 + 1) = hs (hs t2 0 9 (tm.1 0 9 + 1)) 0 8 (tm.1 0 8 + x) := by
        have e9 : (hs t2 0 8 (tm.1 0 8 + x)).1 0 9 = tm.1 0 9 := h4
        rw [e9]
        exact hs_comm t2 0 8 9 _ _ (by decide)
      unfold pfA
      show ∃ x' c' t', bd2 (bd1 (pX3_placeFor c2 (nI (r + n)) 1) fun r17 => pX4_placeFor_40 c2 (nI (r + n)) r17) (kMk (nI r) (nI n)) = some (x', c') ∧ (bd2 (pX5_place (hs (hs t2 0 8 (tm.1 0 8 + x)) 0 9 ((hs t2 0 8 (tm.1 0 8 + x)).1 0 9 + 1)) (nI (r + n)) 1) fun r41 c40 => pX5_make_92 c40 (nI r) (nI n) r41) = some (x', t') ∧ RR c' t'
      rw [e]
      obtain ⟨z0, tm0, p1, p2, p3⟩ := pr_of (mi := 1) h8 h9 hs1 hs2
      rw [p1, p2, bd1_s, bd2_s]
      exact st40 h8 h9 hs1 hs2 p3
  · rw [if_neg hz, if_neg hz]
    exact st40 hS hI hs1 hs2 hP
theorem op_make {c t : HS} (h : RR c t) (x y : Int32) : ∃ r c' t', pX4_make c x y = some (r, c') ∧ pX5_make t x y = some (r, t') ∧ RR c' t' := by
  unfold pX4_make pX5_make
  by_cases hx0 : x < 0
  · rw [if_pos hx0, show pX4_isShape x y = 0 by unfold pX4_isShape; rw [if_pos hx0], if_pos rfl]
    exact ⟨_, _, _, rfl, rfl, h⟩
  rw [if_neg hx0]
  by_cases hy0 : y < 0
  · rw [if_pos hy0, show pX4_isShape x y = 0 by unfold pX4_isShape; rw [if_neg hx0, if_pos hy0], if_pos rfl]
    exact ⟨_, _, _, rfl, rfl, h⟩
  rw [if_neg hy0]
  by_cases hx2 : 256 < x
  · rw [if_pos hx2, show pX4_isShape x y = 0 by unfold pX4_isShape; rw [if_neg hx0, if_neg hy0, if_pos hx2], if_pos rfl]
    exact ⟨_, _, _, rfl, rfl, h⟩
  rw [if_neg hx2]
  by_cases hy2 : 256 < y
  · rw [if_pos hy2, show pX4_isShape x y = 0 by unfold pX4_isShape; rw [if_neg hx0, if_neg hy0, if_neg hx2, if_neg (Int32.not_le.mpr hy2)], if_pos rfl]
    exact ⟨_, _, _, rfl, rfl, h⟩
  rw [if_neg hy2]
  obtain ⟨r, hr, rfl⟩ := nI_of hx0
  obtain ⟨n, hn, rfl⟩ := nI_of hy0
  have hr2 : r ≤ 256 := by
    by_cases q : r ≤ 256
    · exact q
    · exact absurd (nI_lt (a := 256) (by omega) hr) hx2
  have hn2 : n ≤ 256 := by
    by_cases q : n ≤ 256
    · exact q
    · exact absurd (nI_lt (a := 256) (by omega) hn) hy2
  have hyle : nI n ≤ 256 := nI_le (b := 256) hn2 (by omega)
  rw [nI_add]
  by_cases hg : 1 ≤ r + n ∧ r + n < 257
  · have hin : pX5_in (nI (r + n)) 1 256 = 1 := in_t (lo := 1) (hi := 257) hg.1 hg.2 (by omega)
    have hsh : pX4_isShape (nI r) (nI n) = 1 := by
      unfold pX4_isShape
      rw [if_neg hx0, if_neg hy0, if_neg hx2, if_pos hyle, nI_add, if_neg (show ¬ nI (r + n) < 1 from nI_nlt (b := 1) hg.1 (by omega)), if_neg (show ¬ 256 < nI (r + n) from nI_nlt (a := 256) (by omega) (by omega))]
    rw [hin, hsh, if_neg (show ¬ (1 : Int32) = 0 by decide), if_neg (show ¬ (1 : Int32) = 0 by decide)]
    exact op_makeOk h hg.1 (by omega)
  · have hin : pX5_in (nI (r + n)) 1 256 = 0 := in_f (lo := 1) (hi := 257) (by omega) (by omega) (fun j h1 h2 e => hg (by
      have : r + n = j := (nI_eq (by omega) (by omega)).mp e
      omega))
    have hsh : pX4_isShape (nI r) (nI n) = 0 := by
      unfold pX4_isShape
      rw [if_neg hx0, if_neg hy0, if_neg hx2, if_pos hyle, nI_add]
      by_cases q : r + n < 1
      · rw [if_pos (show nI (r + n) < 1 from nI_lt (b := 1) q (by omega))]
      · rw [if_neg (show ¬ nI (r + n) < 1 from nI_nlt (b := 1) (by omega) (by omega)), if_pos (show 256 < nI (r + n) from nI_lt (a := 256) (by omega) (by omega))]
    rw [hin, hsh, if_pos rfl, if_pos rfl]
    exact ⟨_, _, _, rfl, rfl, h⟩
