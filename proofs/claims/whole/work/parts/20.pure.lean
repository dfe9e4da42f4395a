theorem hs_eq (c : HS) (k i j : Nat) (v : Int32) : (hs c k i v).1 k j = if j = i then v else c.1 k j := by simp [hs, upd]
theorem hs_self (c : HS) (k i : Nat) (v : Int32) : (hs c k i v).1 k i = v := by simp [hs, upd]
theorem hs_nj {c : HS} {k i j : Nat} {v : Int32} (h : j ≠ i) : (hs c k i v).1 k j = c.1 k j := by simp [hs, upd, h]
theorem hs_nk {c : HS} {k k' i : Nat} {v : Int32} (h : k' ≠ k) : (hs c k i v).1 k' = c.1 k' := by simp [hs, h]
theorem ldA_n {α : Type} {c : HS} {k N j : Nat} {K : Int32 → Option α} (h : j < N) (hN : N < 2 ^ 31) : ldA c k N (nI j) K = K (c.1 k j) := by
  unfold ldA
  rw [if_neg (nI_in h hN), nI_clamp (by omega)]
theorem stA_n {α : Type} {c : HS} {k N j : Nat} {v : Int32} {K : HS → Option α} (h : j < N) (hN : N < 2 ^ 31) : stA c k N (nI j) v K = K (hs c k j v) := by
  unfold stA
  rw [if_neg (nI_in h hN), nI_clamp (by omega)]
theorem stZ_n {α : Type} {c : HS} {k N j : Nat} {v : Int32} {K : HS → Option α} (h : j < N) (hN : N < 2 ^ 31) (hv : v = 0 ∨ v = 1) : stZ c k N (nI j) v K = K (hs c k j v) := by
  unfold stZ
  rw [if_neg (nI_in h hN), if_pos hv, nI_clamp (by omega)]
theorem bd1_s {α β : Type} (r : β) (K : β → Option α) : bd1 (some r) K = K r := rfl
theorem bd2_s {α β : Type} (r : β) (c : HS) (K : β → HS → Option α) : bd2 (some (r, c)) K = K r c := rfl
theorem gdZ_s {α : Type} {v : Int32} {K : Option α} (h : v = 0 ∨ v = 1) : gdZ v K = K := by unfold gdZ; rw [if_pos h]
theorem gdN_s {α : Type} {v : Int32} {K : Option α} (h : ¬ v = 0) : gdN v K = K := by unfold gdN; rw [if_neg h]
theorem l0 : (0 : Int32) = nI 0 := rfl
theorem l1 : (1 : Int32) = nI 1 := rfl
theorem l2 : (2 : Int32) = nI 2 := rfl
theorem l3 : (3 : Int32) = nI 3 := rfl
theorem l4 : (4 : Int32) = nI 4 := rfl
theorem l5 : (5 : Int32) = nI 5 := rfl
theorem l9 : (9 : Int32) = nI 9 := rfl
theorem l10 : (10 : Int32) = nI 10 := rfl
theorem l12 : (12 : Int32) = nI 12 := rfl
theorem l24 : (24 : Int32) = nI 24 := rfl
theorem l32 : (32 : Int32) = nI 32 := rfl
theorem l63 : (63 : Int32) = nI 63 := rfl
theorem l64 : (64 : Int32) = nI 64 := rfl
theorem l256 : (256 : Int32) = nI 256 := rfl
theorem l768 : (768 : Int32) = nI 768 := rfl
theorem l1536 : (1536 : Int32) = nI 1536 := rfl
theorem nI_ex (x : Int32) : x < 0 ∨ ∃ j : Nat, j < 2 ^ 31 ∧ x = nI j := by
  by_cases h : x < 0
  · exact Or.inl h
  · exact Or.inr (nI_of h)
theorem nI_nneg {j : Nat} (h : j < 2 ^ 31) : ¬ nI j < 0 := nI_pos h
theorem pk_rem2 {a d : Nat} (ha : a < 2 ^ 31) (h0 : 0 < d) (hd : d < 2 ^ 31) : nI a - nI (a / d) * nI d = nI (a % d) := by
  rw [← pk_div ha h0 hd]
  exact pk_rem ha h0 hd
def cnt (P : Nat → Bool) : Nat → Nat
  | 0 => 0
  | n + 1 => cnt P n + (if P n then 1 else 0)
theorem cnt_le (P : Nat → Bool) : ∀ n, cnt P n ≤ n
  | 0 => Nat.le_refl 0
  | n + 1 => by
    have := cnt_le P n
    unfold cnt
    split <;> omega
theorem cnt_congr {P Q : Nat → Bool} : ∀ n, (∀ i, i < n → P i = Q i) → cnt P n = cnt Q n
  | 0, _ => rfl
  | n + 1, h => by
    unfold cnt
    rw [cnt_congr n (fun i hi => h i (by omega)), h n (by omega)]
theorem cnt_add (P : Nat → Bool) (m : Nat) : ∀ n, cnt P (m + n) = cnt P m + cnt (fun k => P (m + k)) n
  | 0 => rfl
  | n + 1 => by
    show cnt P (m + n) + _ = _
    rw [cnt_add P m n]
    exact Nat.add_assoc _ _ _
theorem cnt_two {P Q : Nat → Bool} : ∀ n, (∀ i, i < n → P (2 * i) = Q i ∧ P (2 * i + 1) = false) → cnt P (2 * n) = cnt Q n
  | 0, _ => rfl
  | n + 1, h => by
    have h1 := h n (by omega)
    show cnt P (2 * n + 1 + 1) = _
    unfold cnt
    rw [show cnt P (2 * n + 1) = cnt P (2 * n) + (if P (2 * n) then 1 else 0) from rfl, cnt_two n (fun i hi => h i (by omega)), h1.1, h1.2]
    simp
theorem cnt_zero {P : Nat → Bool} : ∀ n, (∀ i, i < n → P i = false) → cnt P n = 0
  | 0, _ => rfl
  | n + 1, h => by
    unfold cnt
    rw [cnt_zero n (fun i hi => h i (by omega)), h n (by omega)]
    rfl
theorem cnt_pos {P : Nat → Bool} : ∀ n, cnt P n = 0 → ∀ i, i < n → P i = false
  | 0, _, i, hi => by omega
  | n + 1, h, i, hi => by
    unfold cnt at h
    by_cases he : i = n
    · subst he
      cases hp : P i with
      | false => rfl
      | true => rw [hp] at h; simp at h
    · exact cnt_pos n (by omega) i (by omega)
theorem cnt_lt {P : Nat → Bool} : ∀ n i, i < n → P i = false → cnt P n < n
  | 0, i, hi, _ => by omega
  | n + 1, i, hi, h => by
    unfold cnt
    by_cases he : i = n
    · subst he
      rw [h]
      have := cnt_le P i
      simp
      omega
    · have := cnt_lt n i (by omega) h
      split <;> omega
theorem cnt_upd {P Q : Nat → Bool} : ∀ n i, i < n → P i = false → Q i = true → (∀ j, j < n → j ≠ i → Q j = P j) → cnt Q n = cnt P n + 1
  | 0, i, hi, _, _, _ => by omega
  | n + 1, i, hi, h1, h2, h3 => by
    unfold cnt
    by_cases he : i = n
    · subst he
      rw [h1, h2, cnt_congr i (fun j hj => h3 j (by omega) (by omega))]
      simp
    · rw [cnt_upd n i (by omega) h1 h2 (fun j hj hn => h3 j (by omega) hn), h3 n (by omega) (by omega)]
      omega
