/-! Carries, masks and shifts of limbs. -/
theorem wl_mod (X i : Nat) : wl (X % wB ^ (i + 1)) i = wl X i := by
  unfold wl
  rw [Nat.pow_succ, Nat.mod_mul_right_div_self, Nat.mod_mod]
theorem wl_congr {X Y i : Nat} (h : X % wB ^ (i + 1) = Y % wB ^ (i + 1)) : wl X i = wl Y i := by
  rw [← wl_mod X, ← wl_mod Y, h]
theorem wl_div (X i : Nat) : X % wB ^ (i + 1) = X % wB ^ i + wl X i * wB ^ i := by
  rw [Nat.mod_pow_succ, Nat.mul_comm]; rfl
theorem cy_sum {P t : Nat → Nat} {i : Nat} (h : P (i + 1) = P i + t i * wB ^ i) : t i + P i / wB ^ i = P (i + 1) / wB ^ i := by
  rw [h, Nat.add_mul_div_right _ _ (wB_pos i)]; omega
theorem cy_next {P t : Nat → Nat} {i : Nat} (h : P (i + 1) = P i + t i * wB ^ i) : (t i + P i / wB ^ i) / wB = P (i + 1) / wB ^ (i + 1) := by
  rw [cy_sum h, Nat.div_div_eq_div_mul, Nat.pow_succ]
theorem cy_dig {P t : Nat → Nat} {i : Nat} (h : P (i + 1) = P i + t i * wB ^ i) : (t i + P i / wB ^ i) % wB = wl (P (i + 1)) i := by
  rw [cy_sum h]; rfl
theorem lm_mask {n : Nat} (h : n < 2 ^ 64) : (lN n &&& 1073741823).toInt32 = nI (n % wB) := by
  have e : (1073741823 : Int64) = lN (2 ^ 30 - 1) := by decide
  rw [e, wb_mask h (by decide), lN_i]
theorem lm_shr {n : Nat} (h : n < 2 ^ 64) : ((lN n).toUInt64 >>> ((30 : Int32).toInt64.toUInt64 &&& Int64.toUInt64 63)).toInt64 = lN (n / wB) := by
  have e : (30 : Int32) = nI 30 := rfl
  rw [e, wb_shr h (by decide)]
theorem lm_l {n : Nat} (h : n < wB) : (nI n).toInt64 = lN n := nI_l (Nat.lt_trans h (by decide))
theorem nI_max {a b : Nat} (ha : a < 2 ^ 31) (hb : b < 2 ^ 31) : (if nI a < nI b then nI b else nI a) = nI (max a b) := by
  by_cases h : a < b
  · rw [if_pos (nI_lt h hb), Nat.max_eq_right (by omega)]
  · rw [if_neg (nI_nlt (by omega) ha), Nat.max_eq_left (by omega)]
theorem nI_min {a b : Nat} (ha : a < 2 ^ 31) (hb : b < 2 ^ 31) : (if nI b < nI a then nI b else nI a) = nI (min a b) := by
  by_cases h : b < a
  · rw [if_pos (nI_lt h ha), Nat.min_eq_right (by omega)]
  · rw [if_neg (nI_nlt (by omega) hb), Nat.min_eq_left (by omega)]
/-- the first i limbs of Z, the others of X -/
abbrev wm (Z X i : Nat) : Nat → Int32 := fun j => if j < i then nI (wl Z j) else nI (wl X j)
theorem wm_0 (Z X : Nat) : wm Z X 0 = fun j => nI (wl X j) := by
  funext j
  rw [wm, if_neg (by omega)]
theorem wm_s (Z X i : Nat) : va_up (wm Z X i) i (nI (wl Z i)) = wm Z X (i + 1) := by
  funext j
  by_cases h : j = i
  · subst h; rw [va_up_self, wm, if_pos (by omega)]
  · rw [va_up_ne _ _ h, wm, wm]
    by_cases h2 : j < i
    · rw [if_pos h2, if_pos (by omega)]
    · rw [if_neg h2, if_neg (by omega)]
theorem wm_at (Z X i : Nat) : wm Z X i i = nI (wl X i) := by rw [wm, if_neg (by omega)]
theorem wm_end {Z X n : Nat} (hZ : Z < wB ^ n) (hX : X < wB ^ n) : wm Z X n = fun j => nI (wl Z j) := by
  funext j
  by_cases h : j < n
  · rw [wm, if_pos h]
  · rw [wm, if_neg h, wl_zero hX (by omega), wl_zero hZ (by omega)]
