def fm (g : Nat → Int64 → Int64) : Nat → Nat → Int64 → Int64
  | 0, _, h => h
  | m + 1, i, h => fm g m (i + 1) (g i h)
theorem fm_congr {f g : Nat → Int64 → Int64} : ∀ m i h, (∀ j x, i ≤ j → j < i + m → f j x = g j x) → fm f m i h = fm g m i h
  | 0, _, _, _ => rfl
  | m + 1, i, h, hc => by
    show fm f m (i + 1) (f i h) = fm g m (i + 1) (g i h)
    rw [hc i h (Nat.le_refl i) (by omega)]
    exact fm_congr m (i + 1) (g i h) (fun j x h1 h2 => hc j x (by omega) (by omega))
theorem fm_two {f g : Nat → Int64 → Int64} : ∀ m i h, (∀ j x, i ≤ j → j < i + m → f (2 * j) x = g j x ∧ f (2 * j + 1) x = x) → fm f (2 * m) (2 * i) h = fm g m i h
  | 0, _, _, _ => rfl
  | m + 1, i, h, hc => by
    have h1 := hc i h (Nat.le_refl i) (by omega)
    have h2 := hc i (g i h) (Nat.le_refl i) (by omega)
    show fm f (2 * m) (2 * i + 1 + 1) (f (2 * i + 1) (f (2 * i) h)) = fm g m (i + 1) (g i h)
    rw [h1.1, h2.2]
    exact fm_two m (i + 1) (g i h) (fun j x h1 h2 => hc j x (by omega) (by omega))
def mx (h v : Int64) : Int64 := 31 * h + v
theorem mixM (t : HS) (h v : Int64) : pX5_mix (hsl t h) v = hsl t (mx h v) := rfl
theorem tl_s {α : Type} (o : HS) (K : HS → α) : tlA o K = K o := rfl
theorem hsl_1 (t : HS) (h : Int64) : (hsl t h).1 = t.1 := rfl
theorem hsl_2 (t : HS) (h : Int64) : (hsl t h).2 = h := rfl
theorem ldA_l {α : Type} {t : HS} {h : Int64} {k N : Nat} {i : Int32} {K : Int32 → Option α} : ldA (hsl t h) k N i K = ldA t k N i K := rfl
def gL (t : HS) (k : Nat) (i : Nat) (h : Int64) : Int64 := mx h (t.1 k i).toInt64
def ov (t : HS) : Int64 := if t.1 0 3 = 0 then 0 else 1
theorem M237 {t : HS} {n : Nat} (hn : n ≤ 12) (hs : t.1 0 2 = nI n) : ∀ m i f h, i + m = n → m < f → pX5_digest_237 f (hsl t h) (nI i) = some (mx (fm (gL t 13) m i h) (ov t), hsl t (mx (fm (gL t 13) m i h) (ov t))) := by
  intro m
  induction m with
  | zero =>
    intro i f h hi hf
    obtain ⟨f, rfl⟩ : ∃ g, f = g + 1 := ⟨f - 1, by omega⟩
    unfold pX5_digest_237
    rw [hsl_1, hs, if_pos (nI_le (by omega) (by omega)), mixM, mixM, tl_s, tl_s]
    unfold ov
    by_cases h0 : t.1 0 3 = 0
    · rw [if_pos h0, if_pos h0]; rfl
    · rw [if_neg h0, if_neg h0]; rfl
  | succ m ih =>
    intro i f h hi hf
    obtain ⟨f, rfl⟩ : ∃ g, f = g + 1 := ⟨f - 1, by omega⟩
    unfold pX5_digest_237
    rw [hsl_1, hs, if_neg (nI_ge (by omega) (by omega)), ldA_l, ldA_n (by omega) (by omega), mixM, tl_s, nI_1]
    exact ih (i + 1) f _ (by omega) (by omega)
def gB (t : HS) (i : Nat) (h : Int64) : Int64 := mx (mx (mx h (t.1 1 i).toInt64) (t.1 3 i).toInt64) (t.1 4 i).toInt64
def fin1 (t : HS) (n : Nat) (h : Int64) : Int64 := mx (fm (gL t 13) n 0 h) (ov t)
theorem M174 {t : HS} {B n : Nat} (hB : B ≤ 24) (hb : t.1 0 0 = nI B) (h01 : ivBlk t) (hn : n ≤ 12) (hs : t.1 0 2 = nI n) : ∀ m i f h, i + m = B → m < f → pX5_digest_174 f (hsl t h) (nI i) = some (fin1 t n (fm (gB t) m i h), hsl t (fin1 t n (fm (gB t) m i h))) := by
  intro m
  induction m with
  | zero =>
    intro i f h hi hf
    obtain ⟨f, rfl⟩ : ∃ g, f = g + 1 := ⟨f - 1, by omega⟩
    unfold pX5_digest_174
    rw [hsl_1, hb, if_pos (nI_le (by omega) (by omega))]
    have := M237 (t := t) hn hs n 0 FU h (by omega) (FU_ge (by omega))
    rw [nI_0] at this
    exact this
  | succ m ih =>
    intro i f h hi hf
    obtain ⟨f, rfl⟩ : ∃ g, f = g + 1 := ⟨f - 1, by omega⟩
    have ih := ih (i + 1) f (gB t i h) (by omega) (by omega)
    unfold pX5_digest_174
    rw [hsl_1, hb, if_neg (nI_ge (by omega) (by omega)), ldA_l, ldA_n (by omega) (by omega), mixM, tl_s, ldA_l, ldA_n (by omega) (by omega)]
    unfold pX5_digest_208
    simp only [mixM, tl_s, ldA_l]
    rw [ldA_n (by omega) (by omega), ldA_n (by omega) (by omega), nI_1]
    have e9 : fm (gB t) (m + 1) i h = fm (gB t) m (i + 1) (gB t i h) := rfl
    rw [e9]
    have q0 : (0 : Int32).toInt64 = 0 := by decide
    have q1 : (1 : Int32).toInt64 = 1 := by decide
    have n10 : ¬ (1 : Int32) = 0 := by decide
    rcases (h01 i (by omega)).1 with e | e
    · rcases (h01 i (by omega)).2 with e2 | e2
      · have eg : gB t i h = mx (mx (mx h (t.1 1 i).toInt64) 0) 0 := by unfold gB; rw [e, e2, q0]
        rw [eg] at ih ⊢
        rw [if_pos e, if_pos e2]
        exact ih
      · have eg : gB t i h = mx (mx (mx h (t.1 1 i).toInt64) 0) 1 := by unfold gB; rw [e, e2, q0, q1]
        rw [eg] at ih ⊢
        rw [if_pos e, e2, if_neg n10]
        exact ih
    · rcases (h01 i (by omega)).2 with e2 | e2
      · have eg : gB t i h = mx (mx (mx h (t.1 1 i).toInt64) 1) 0 := by unfold gB; rw [e, e2, q0, q1]
        rw [eg] at ih ⊢
        rw [e, if_neg n10, if_pos e2]
        exact ih
      · have eg : gB t i h = mx (mx (mx h (t.1 1 i).toInt64) 1) 1 := by unfold gB; rw [e, e2, q1]
        rw [eg] at ih ⊢
        rw [e, if_neg n10, e2, if_neg n10]
        exact ih
def fin2 (t : HS) (B n : Nat) (h : Int64) : Int64 := fin1 t n (fm (gB t) B 0 h)
theorem M147 {t : HS} {B n q : Nat} (hB : B ≤ 24) (hb : t.1 0 0 = nI B) (h01 : ivBlk t) (hn : n ≤ 12) (hs : t.1 0 2 = nI n) (hq : q ≤ 24) (hd : t.1 0 1 = nI q) : ∀ m i f h, i + m = q → m < f → pX5_digest_147 f (hsl t h) (nI i) = some (fin2 t B n (fm (gL t 12) m i h), hsl t (fin2 t B n (fm (gL t 12) m i h))) := by
  intro m
  induction m with
  | zero =>
    intro i f h hi hf
    obtain ⟨f, rfl⟩ : ∃ g, f = g + 1 := ⟨f - 1, by omega⟩
    unfold pX5_digest_147
    rw [hsl_1, hd, if_pos (nI_le (by omega) (by omega))]
    have := M174 (t := t) hB hb h01 hn hs B 0 FU h (by omega) (FU_ge (by omega))
    rw [nI_0] at this
    exact this
  | succ m ih =>
    intro i f h hi hf
    obtain ⟨f, rfl⟩ : ∃ g, f = g + 1 := ⟨f - 1, by omega⟩
    unfold pX5_digest_147
    rw [hsl_1, hd, if_neg (nI_ge (by omega) (by omega)), ldA_l, ldA_n (by omega) (by omega), mixM, tl_s, nI_1]
    exact ih (i + 1) f _ (by omega) (by omega)
def fin3 (t : HS) (B n q : Nat) (h : Int64) : Int64 := fin2 t B n (fm (gL t 12) q 0 h)
theorem M122 {t : HS} {B n q : Nat} (hB : B ≤ 24) (hb : t.1 0 0 = nI B) (h01 : ivBlk t) (hn : n ≤ 12) (hs : t.1 0 2 = nI n) (hq : q ≤ 24) (hd : t.1 0 1 = nI q) : ∀ m i f h, i + m = 10 → m < f → pX5_digest_122 f (hsl t h) (nI i) = some (fin3 t B n q (fm (gL t 11) m i h), hsl t (fin3 t B n q (fm (gL t 11) m i h))) := by
  intro m
  induction m with
  | zero =>
    intro i f h hi hf
    obtain ⟨f, rfl⟩ : ∃ g, f = g + 1 := ⟨f - 1, by omega⟩
    unfold pX5_digest_122
    rw [l10, if_pos (nI_le (by omega) (by omega))]
    have := M147 (t := t) hB hb h01 hn hs hq hd q 0 FU h (by omega) (FU_ge (by omega))
    rw [nI_0] at this
    exact this
  | succ m ih =>
    intro i f h hi hf
    obtain ⟨f, rfl⟩ : ∃ g, f = g + 1 := ⟨f - 1, by omega⟩
    unfold pX5_digest_122
    rw [l10, if_neg (nI_ge (by omega) (by omega)), ldA_l, ldA_n (by omega) (by omega), mixM, tl_s, nI_1]
    exact ih (i + 1) f _ (by omega) (by omega)
def fin4 (t : HS) (B n q : Nat) (h : Int64) : Int64 := fin3 t B n q (fm (gL t 11) 10 0 h)
def gW (t : HS) (k a : Nat) (i : Nat) (h : Int64) : Int64 := mx h (t.1 k (a + i)).toInt64
theorem M86 {t : HS} {a r n : Nat} {K : HS → Int32 → Option (Int64 × HS)} (ha : a < 1536) (hr : t.1 9 a = nI r) (hn : t.1 10 a = nI n) (he : a + (r + n) ≤ 1536) : ∀ m i f h, i + m = r + n → m < f → pX5_digest_86 K f (hsl t h) (nI a) (nI i) = K (hsl t (fm (gW t 5 a) m i h)) (nI (a + 1)) := by
  intro m
  induction m with
  | zero =>
    intro i f h hi hf
    obtain ⟨f, rfl⟩ : ∃ g, f = g + 1 := ⟨f - 1, by omega⟩
    unfold pX5_digest_86
    rw [sizeM (t := hsl t h) ha hr hn, bd1_s, if_pos (nI_le (by omega) (by omega)), nI_1]
    rfl
  | succ m ih =>
    intro i f h hi hf
    obtain ⟨f, rfl⟩ : ∃ g, f = g + 1 := ⟨f - 1, by omega⟩
    unfold pX5_digest_86
    rw [sizeM (t := hsl t h) ha hr hn, bd1_s, if_neg (nI_ge (by omega) (by omega)), nI_add, ldA_l, ldA_n (by omega) (by omega), mixM, tl_s, nI_1]
    exact ih (i + 1) f _ (by omega) (by omega)
def hT (t : HS) (a r n : Nat) (o : Int64) (h : Int64) : Int64 := fm (gW t 5 a) (r + n) 0 (mx (mx (mx (mx h (nI a).toInt64) (nI r).toInt64) (nI n).toInt64) o)
noncomputable def gT (t : HS) (a : Nat) (h : Int64) : Int64 := if t.1 6 a = 0 then h else hT t a ((t.1 9 a).toNatClampNeg) ((t.1 10 a).toNatClampNeg) (if t.1 7 a = 0 then 0 else 1) h
theorem M18 {t : HS} {B n q : Nat} (hL : Lay t B) (hn : n ≤ 12) (hs : t.1 0 2 = nI n) (hq : q ≤ 24) (hd : t.1 0 1 = nI q) : ∀ m i f h, i + m = 64 * B → m < f → pX5_digest_18 f (hsl t h) (nI i) = some (fin4 t B n q (fm (gT t) m i h), hsl t (fin4 t B n q (fm (gT t) m i h))) := by
  obtain ⟨w1, w2, w3⟩ := hL.1
  intro m
  induction m with
  | zero =>
    intro i f h hi hf
    obtain ⟨f, rfl⟩ : ∃ g, f = g + 1 := ⟨f - 1, by omega⟩
    unfold pX5_digest_18
    rw [hsl_1, w3, l64, pk_mul, if_pos (nI_le (by omega) (by omega))]
    have := M122 (t := t) w2 w3 hL.2.2.2.1 hn hs hq hd 10 0 FU h (by omega) (FU_ge (by omega))
    rw [nI_0] at this
    exact this
  | succ m ih =>
    intro i f h hi hf
    obtain ⟨f, rfl⟩ : ∃ g, f = g + 1 := ⟨f - 1, by omega⟩
    have ih := ih (i + 1) f (gT t i h) (by omega) (by omega)
    unfold pX5_digest_18
    rw [hsl_1, w3, l64, pk_mul, if_neg (nI_ge (by omega) (by omega)), ldA_l, ldA_n (by omega) (by omega), nI_1]
    rcases beg01 hL (a := i) (by omega) with h0 | h0
    · rw [if_pos h0]
      have e : gT t i h = h := if_pos h0
      rw [e] at ih
      have e2 : fm (gT t) (m + 1) i h = fm (gT t) m (i + 1) h := by
        show fm (gT t) m (i + 1) (gT t i h) = _
        rw [e]
      rw [e2]
      exact ih
    · obtain ⟨r, k, a1, a2, a3, a4, a5⟩ := hL.2.2.2.2.1 i (by omega) h0
      have hend := end_le hL.1 (by omega) a5 a4 a3
      have n10 : ¬ t.1 6 i = 0 := by rw [h0]; decide
      rw [if_neg n10, mixM, tl_s, ldA_l, ldA_n (by omega) (by omega), mixM, tl_s, ldA_l, ldA_n (by omega) (by omega), mixM, tl_s, ldA_l, ldA_n (by omega) (by omega), mixM, mixM, tl_s, tl_s, a1, a2]
      have e : gT t i h = hT t i r k (if t.1 7 i = 0 then 0 else 1) h := by
        unfold gT
        rw [if_neg n10, a1, a2, nI_clamp (by omega), nI_clamp (by omega)]
      rw [e] at ih
      have e2 : fm (gT t) (m + 1) i h = fm (gT t) m (i + 1) (hT t i r k (if t.1 7 i = 0 then 0 else 1) h) := by
        show fm (gT t) m (i + 1) (gT t i h) = _
        rw [e]
      rw [e2]
      rcases (hL.2.2.1 i (by omega)).2 with e3 | e3
      · rw [if_pos e3] at ih ⊢
        rw [if_pos e3]
        have h86 := M86 (t := t) (K := pX5_digest_18 f) (by omega) a1 a2 hend (r + k) 0 FU (mx (mx (mx (mx h (nI i).toInt64) (nI r).toInt64) (nI k).toInt64) 0) (by omega) (FU_ge (by omega))
        rw [nI_0] at h86
        rw [h86]
        exact ih
      · have e4 : ¬ t.1 7 i = 0 := by rw [e3]; decide
        rw [if_neg e4] at ih ⊢
        rw [if_neg e4]
        have h86 := M86 (t := t) (K := pX5_digest_18 f) (by omega) a1 a2 hend (r + k) 0 FU (mx (mx (mx (mx h (nI i).toInt64) (nI r).toInt64) (nI k).toInt64) 1) (by omega) (FU_ge (by omega))
        rw [nI_0] at h86
        rw [h86]
        exact ih
theorem digestM {t : HS} {B n q : Nat} (hL : Lay t B) (hn : n ≤ 12) (hs : t.1 0 2 = nI n) (hq : q ≤ 24) (hd : t.1 0 1 = nI q) : pX5_digest t = some (fin4 t B n q (fm (gT t) (64 * B) 0 (mx 43 (nI B).toInt64)), hsl t (fin4 t B n q (fm (gT t) (64 * B) 0 (mx 43 (nI B).toInt64)))) := by
  obtain ⟨w1, w2, w3⟩ := hL.1
  have := M18 hL hn hs hq hd (64 * B) 0 FU (mx 43 (nI B).toInt64) (by omega) (FU_ge (by omega))
  rw [nI_0] at this
  unfold pX5_digest pfL
  show tlA (pX5_mix (hsl t 43) ((t.1 0 0).toInt64)) (fun c52 => pX5_digest_18 FU c52 0) = _
  rw [w3, mixM, tl_s]
  exact this
theorem C14 {c : HS} : ∀ m i f h, i + m = 10 → m < f → pX4_mixRow_14_6 c f (nI 10) h (nI i) = some (fm (gL c 10) m i h) := by
  intro m
  induction m with
  | zero =>
    intro i f h hi hf
    obtain ⟨f, rfl⟩ : ∃ g, f = g + 1 := ⟨f - 1, by omega⟩
    unfold pX4_mixRow_14_6
    rw [if_pos (nI_le (by omega) (by omega))]
    rfl
  | succ m ih =>
    intro i f h hi hf
    obtain ⟨f, rfl⟩ : ∃ g, f = g + 1 := ⟨f - 1, by omega⟩
    unfold pX4_mixRow_14_6
    rw [l10, if_neg (nI_ge (by omega) (by omega)), if_neg (nI_ge (by omega) (by omega)), ldA_n (by omega) (by omega), nI_1]
    exact ih (i + 1) f _ (by omega) (by omega)
theorem C15 {c : HS} {q : Nat} (hq : q ≤ 24) : ∀ m i f h, i + m = q → m < f → pX4_mixRow_15_6 c f (nI q) h (nI i) = some (fm (gL c 11) m i h) := by
  intro m
  induction m with
  | zero =>
    intro i f h hi hf
    obtain ⟨f, rfl⟩ : ∃ g, f = g + 1 := ⟨f - 1, by omega⟩
    unfold pX4_mixRow_15_6
    rw [if_pos (nI_le (by omega) (by omega))]
    rfl
  | succ m ih =>
    intro i f h hi hf
    obtain ⟨f, rfl⟩ : ∃ g, f = g + 1 := ⟨f - 1, by omega⟩
    unfold pX4_mixRow_15_6
    rw [l24, if_neg (nI_ge (by omega) (by omega)), if_neg (nI_ge (by omega) (by omega)), ldA_n (by omega) (by omega), nI_1]
    exact ih (i + 1) f _ (by omega) (by omega)
theorem C12 {c : HS} {q : Nat} (hq : q ≤ 12) : ∀ m i f h, i + m = q → m < f → pX4_mixRow_12_6 c f (nI q) h (nI i) = some (fm (gL c 8) m i h) := by
  intro m
  induction m with
  | zero =>
    intro i f h hi hf
    obtain ⟨f, rfl⟩ : ∃ g, f = g + 1 := ⟨f - 1, by omega⟩
    unfold pX4_mixRow_12_6
    rw [if_pos (nI_le (by omega) (by omega))]
    rfl
  | succ m ih =>
    intro i f h hi hf
    obtain ⟨f, rfl⟩ : ∃ g, f = g + 1 := ⟨f - 1, by omega⟩
    unfold pX4_mixRow_12_6
    rw [l12, if_neg (nI_ge (by omega) (by omega)), if_neg (nI_ge (by omega) (by omega)), ldA_n (by omega) (by omega), nI_1]
    exact ih (i + 1) f _ (by omega) (by omega)
def gBc (c : HS) (i : Nat) (h : Int64) : Int64 := mx (mx (mx h (c.1 1 i).toInt64) (c.1 9 i).toInt64) (c.1 3 i).toInt64
def fn1 (c : HS) (n : Nat) (h : Int64) : Int64 := mx (fm (gL c 8) n 0 h) (pX4_flag (c.1 0 4)).toInt64
theorem C87 {c : HS} {B n : Nat} (hw : CW c B) (hn : n ≤ 12) (hs : c.1 0 3 = nI n) : ∀ m i f h, i + m = B → m < f → pX4_digest_87 c f h (nI i) = some (fn1 c n (fm (gBc c) m i h)) := by
  obtain ⟨w1, w2, w3, w4⟩ := hw
  intro m
  induction m with
  | zero =>
    intro i f h hi hf
    obtain ⟨f, rfl⟩ : ∃ g, f = g + 1 := ⟨f - 1, by omega⟩
    unfold pX4_digest_87
    have h12 : pX4_mixRow_12 c h (nI n) = some (fm (gL c 8) n 0 h) := by
      have := C12 (c := c) hn n 0 FU h (by omega) (FU_ge (by omega))
      rw [nI_0] at this
      exact this
    rw [w3, if_pos (nI_le (by omega) (by omega)), hs, h12, bd1_s]
    rfl
  | succ m ih =>
    intro i f h hi hf
    obtain ⟨f, rfl⟩ : ∃ g, f = g + 1 := ⟨f - 1, by omega⟩
    unfold pX4_digest_87
    rw [w3, if_neg (nI_ge (by omega) (by omega)), ldA_n (by omega) (by omega), ldA_n (by omega) (by omega), ldA_n (by omega) (by omega), nI_1]
    exact ih (i + 1) f _ (by omega) (by omega)
theorem C81 {c : HS} {a s : Nat} (he : a + s ≤ 1536) : ∀ m i f h, i + m = s → m < f → pX4_mixThing_81 c f (nI a) h (nI s) (nI i) = some (fm (gW c 4 a) m i h) := by
  intro m
  induction m with
  | zero =>
    intro i f h hi hf
    obtain ⟨f, rfl⟩ : ∃ g, f = g + 1 := ⟨f - 1, by omega⟩
    unfold pX4_mixThing_81
    rw [if_pos (nI_le (by omega) (by omega))]
    rfl
  | succ m ih =>
    intro i f h hi hf
    obtain ⟨f, rfl⟩ : ∃ g, f = g + 1 := ⟨f - 1, by omega⟩
    unfold pX4_mixThing_81
    rw [if_neg (nI_ge (by omega) (by omega)), nI_add, ldA_n (by omega) (by omega), nI_1]
    exact ih (i + 1) f _ (by omega) (by omega)
theorem gW_eq {c t : HS} {a s : Nat} (hwd : smWd c t) (he : a + s ≤ 1536) (h : Int64) : fm (gW c 4 a) s 0 h = fm (gW t 5 a) s 0 h := fm_congr s 0 h (fun j x _ hj => by unfold gW; rw [hwd (a + j) (by omega)])
theorem C17 {c t : HS} {B n q : Nat} (hS : Sim c t B) (hI : Inv t B) (hn : n ≤ 12) (hs : c.1 0 3 = nI n) (hq : q ≤ 24) (hd : c.1 0 5 = nI q) : ∀ m i f h, i + m = 32 * B → m < f → pX4_digest_17 c f h (nI (2 * i)) = some (fn1 c n (fm (gBc c) B 0 (fm (gL c 11) q 0 (fm (gL c 10) 10 0 (fm (fun k => gT t (2 * k)) m i h))))) := by
  have hw := hS.1
  have hG := geo_of hS hI
  obtain ⟨w1, w2, w3, w4⟩ := id hw
  intro m
  induction m with
  | zero =>
    intro i f h hi hf
    obtain ⟨f, rfl⟩ : ∃ g, f = g + 1 := ⟨f - 1, by omega⟩
    unfold pX4_digest_17
    have h14 : pX4_mixRow_14 c h (nI 10) = some (fm (gL c 10) 10 0 h) := by
      have := C14 (c := c) 10 0 FU h (by omega) (FU_ge (by omega))
      rw [nI_0] at this
      exact this
    have h15 : pX4_mixRow_15 c (fm (gL c 10) 10 0 h) (nI q) = some (fm (gL c 11) q 0 (fm (gL c 10) 10 0 h)) := by
      have := C15 (c := c) hq q 0 FU (fm (gL c 10) 10 0 h) (by omega) (FU_ge (by omega))
      rw [nI_0] at this
      exact this
    have h87 := C87 hw hn hs B 0 FU (fm (gL c 11) q 0 (fm (gL c 10) 10 0 h)) (by omega) (FU_ge (by omega))
    rw [nI_0] at h87
    rw [w4, if_pos (nI_le (by omega) (by omega)), l10, h14, bd1_s, hd, h15, bd1_s, h87]
    rfl
  | succ m ih =>
    intro i f h hi hf
    obtain ⟨f, rfl⟩ : ∃ g, f = g + 1 := ⟨f - 1, by omega⟩
    have ih := ih (i + 1) f (gT t (2 * i) h) (by omega) (by omega)
    unfold pX4_digest_17
    rw [w4, if_neg (nI_ge (by omega) (by omega)), l2, nI_add, show 2 * i + 2 = 2 * (i + 1) by omega]
    rcases beg01 hI.1 (a := 2 * i) (by omega) with h0 | h0
    · rw [geo_f hG (by omega) (by rw [h0]; decide), bd1_s, if_pos rfl]
      have e : gT t (2 * i) h = h := if_pos h0
      rw [e] at ih
      rw [ih]
      show _ = some (fn1 c n (fm (gBc c) B 0 (fm (gL c 11) q 0 (fm (gL c 10) 10 0 (fm (fun k => gT t (2 * k)) m (i + 1) (gT t (2 * i) h))))))
      rw [e]
    · obtain ⟨r, k, a1, a2, a3, a4, a5, a6, a7, a8, a9, a10⟩ := geo_rn hG (by omega) h0
      have hend := end_le hI.1.1 (by omega) a5 a4 a3
      have n10 : ¬ t.1 6 (2 * i) = 0 := by rw [h0]; decide
      have e : gT t (2 * i) h = hT t (2 * i) r k (if t.1 7 (2 * i) = 0 then 0 else 1) h := by
        unfold gT
        rw [if_neg n10, a1, a2, nI_clamp (by omega), nI_clamp (by omega)]
      have hmt : pX4_mixThing c h (nI (2 * i)) = some (gT t (2 * i) h) := by
        rw [e]
        unfold pX4_mixThing
        rw [referencesOf_t hw a9, bd1_s, numbersOf_t hw a9, bd1_s, ageOf_t hw a9, bd1_s, a6, a7]
        unfold pX4_mixThing_59
        rw [sizeOf_t hw a9 a6 a7, bd1_s, bd1_s]
        rcases age_old hS.2.1 (by omega) a8 h0 with ⟨g1, g2⟩ | ⟨g1, g2⟩
        · rw [g1, if_pos rfl, if_neg (by rw [g2]; decide)]
          have h81 := C81 (c := c) (a := 2 * i) (s := r + k) hend (r + k) 0 FU (mx (mx (mx (mx h (nI (2 * i)).toInt64) (nI r).toInt64) (nI k).toInt64) 1) (by omega) (FU_ge (by omega))
          rw [nI_0, gW_eq hS.2.2.2.2.2.1 hend] at h81
          exact h81
        · rw [g1, if_neg (by decide), if_pos g2]
          have h81 := C81 (c := c) (a := 2 * i) (s := r + k) hend (r + k) 0 FU (mx (mx (mx (mx h (nI (2 * i)).toInt64) (nI r).toInt64) (nI k).toInt64) 0) (by omega) (FU_ge (by omega))
          rw [nI_0, gW_eq hS.2.2.2.2.2.1 hend] at h81
          exact h81
      rw [isThing_t hw a9, bd1_s, if_neg (by decide), hmt, bd1_s, ih]
      rfl
theorem op_digest {c t : HS} (h : RR c t) : ∃ r t', pX4_digest c = some r ∧ pX5_digest t = some (r, t') ∧ RR c t' := by
  obtain ⟨B, hS, hI⟩ := h
  have hw := hS.1
  obtain ⟨w1, w2, w3, w4⟩ := id hw
  obtain ⟨z1, z2, z3, z4, z5, z6, z7, z8, z9, y1, y2, y3, y4, y5, y6, y7, y8, y9, y10, y11⟩ := id hS
  obtain ⟨i1, i2, i3, i4, j1, j2, j3, ⟨n, hn, j4⟩, ⟨q, hq, j5⟩⟩ := id hI
  have hC := C17 hS hI hn (y2.trans j4) hq (y4.trans j5) (32 * B) 0 FU (mx 43 (nI B).toInt64) (by omega) (FU_ge (by omega))
  rw [digestM hI.1 hn j4 hq j5]
  refine ⟨_, _, ?_, rfl, B, hS, hI⟩
  unfold pX4_digest
  rw [w3]
  rw [Nat.mul_zero, nI_0] at hC
  have e : pX4_mix 43 (nI B).toInt64 = mx 43 (nI B).toInt64 := rfl
  rw [e, hC]
  have e1 : fm (gT t) (64 * B) 0 (mx 43 (nI B).toInt64) = fm (fun k => gT t (2 * k)) (32 * B) 0 (mx 43 (nI B).toInt64) := by
    have := fm_two (f := gT t) (g := fun k => gT t (2 * k)) (32 * B) 0 (mx 43 (nI B).toInt64) (fun j x _ hj => ⟨rfl, if_pos (odd0 hI.1 (by omega))⟩)
    rw [show 64 * B = 2 * (32 * B) by omega]
    exact this
  have e2 : ∀ h, fm (gL c 10) 10 0 h = fm (gL t 11) 10 0 h := fun h => fm_congr 10 0 h (fun j x _ hj => by unfold gL; rw [z7 j (by omega)])
  have e3 : ∀ h, fm (gL c 11) q 0 h = fm (gL t 12) q 0 h := fun h => fm_congr q 0 h (fun j x _ hj => by unfold gL; rw [z8 j (by omega)])
  have e4 : ∀ h, fm (gBc c) B 0 h = fm (gB t) B 0 h := fun h => fm_congr B 0 h (fun j x _ hj => by unfold gBc gB; rw [(z4 j (by omega)).1, (z4 j (by omega)).2.1, (z4 j (by omega)).2.2])
  have e5 : ∀ h, fm (gL c 8) n 0 h = fm (gL t 13) n 0 h := fun h => fm_congr n 0 h (fun j x _ hj => by unfold gL; rw [z9 j (by omega)])
  have e6 : (pX4_flag (c.1 0 4)).toInt64 = ov t := by
    rw [y3]
    unfold ov
    rcases j2 with e | e
    · rw [e, if_pos rfl]; decide
    · rw [e, if_neg (by decide)]; decide
  unfold fn1 fin4 fin3 fin2 fin1
  rw [e1, e2, e3, e4, e5, e6]
