/-! Whole numbers by limbs of 30 bits. -/
abbrev wB : Nat := 1073741824
def wv (h : Nat → Nat) : Nat → Nat
  | 0 => 0
  | n + 1 => wv h n + h n * wB ^ n
def wl (X i : Nat) : Nat := X / wB ^ i % wB
theorem wB_pos (n : Nat) : 0 < wB ^ n := Nat.pow_pos (by decide)
theorem wl_lt (X i : Nat) : wl X i < wB := Nat.mod_lt _ (by decide)
theorem wv_congr {h g : Nat → Nat} : ∀ {n : Nat}, (∀ i, i < n → h i = g i) → wv h n = wv g n
  | 0, _ => rfl
  | n + 1, q => by
    show wv h n + h n * wB ^ n = wv g n + g n * wB ^ n
    rw [wv_congr (fun i hi => q i (by omega)), q n (by omega)]
theorem wv_lt {h : Nat → Nat} : ∀ {n : Nat}, (∀ i, i < n → h i < wB) → wv h n < wB ^ n
  | 0, _ => Nat.one_pos
  | n + 1, q => by
    have h1 := wv_lt (h := h) (n := n) (fun i hi => q i (by omega))
    have h2 : (h n + 1) * wB ^ n ≤ wB * wB ^ n := Nat.mul_le_mul_right _ (q n (by omega))
    rw [Nat.add_mul, Nat.one_mul] at h2
    show wv h n + h n * wB ^ n < wB ^ n * wB
    rw [Nat.mul_comm (wB ^ n) wB]
    omega
theorem wv_wl (X : Nat) : ∀ n : Nat, wv (wl X) n = X % wB ^ n
  | 0 => by
    show 0 = X % 1
    omega
  | n + 1 => by
    show wv (wl X) n + wl X n * wB ^ n = _
    rw [wv_wl X n, Nat.mod_pow_succ, Nat.mul_comm]
    rfl
theorem wv_wl' {X n : Nat} (h : X < wB ^ n) : wv (wl X) n = X := by rw [wv_wl, Nat.mod_eq_of_lt h]
theorem wl_wv {h : Nat → Nat} : ∀ {n : Nat}, (∀ i, i < n → h i < wB) → ∀ i, i < n → wl (wv h n) i = h i
  | 0, _, i, hi => absurd hi (by omega)
  | n + 1, q, i, hi => by
    have h1 := wv_lt (h := h) (n := n) (fun j hj => q j (by omega))
    show (wv h n + h n * wB ^ n) / wB ^ i % wB = h i
    by_cases hin : i = n
    · subst hin
      rw [Nat.add_mul_div_right _ _ (wB_pos i), Nat.div_eq_of_lt h1, Nat.zero_add, Nat.mod_eq_of_lt (q i (by omega))]
    · have e : h n * wB ^ n = (h n * wB ^ (n - i - 1) * wB) * wB ^ i := by
        rw [Nat.mul_assoc, Nat.mul_assoc, ← Nat.pow_succ', ← Nat.pow_add]
        congr 2
        omega
      rw [e, Nat.add_mul_div_right _ _ (wB_pos i), Nat.add_mul_mod_self_right]
      exact wl_wv (h := h) (n := n) (fun j hj => q j (by omega)) i (by omega)
theorem wl_zero {X i n : Nat} (h : X < wB ^ n) (hi : n ≤ i) : wl X i = 0 := by
  have : X < wB ^ i := Nat.lt_of_lt_of_le h (Nat.pow_le_pow_right (by decide) hi)
  unfold wl
  rw [Nat.div_eq_of_lt this]
  rfl
theorem wl_top {X n : Nat} (h : X < wB ^ (n + 1)) : wl X n = X / wB ^ n := by
  unfold wl
  refine Nat.mod_eq_of_lt ?_
  refine Nat.div_lt_of_lt_mul ?_
  rw [← Nat.pow_succ]
  exact h
/-- how many limbs are used -/
def wuA (X : Nat) : Nat → Nat
  | 0 => 0
  | n + 1 => if wB ^ n ≤ X then n + 1 else wuA X n
def wu (X : Nat) : Nat := wuA X 13
theorem wuA_le (X : Nat) : ∀ n, wuA X n ≤ n
  | 0 => Nat.le_refl 0
  | n + 1 => by
    unfold wuA
    by_cases h : wB ^ n ≤ X
    · rw [if_pos h]; exact Nat.le_refl _
    · rw [if_neg h]; exact Nat.le_succ_of_le (wuA_le X n)
theorem wuA_spec (X : Nat) : ∀ n, X < wB ^ n → X < wB ^ (wuA X n) ∧ ∀ v, v < wuA X n → wB ^ v ≤ X
  | 0, h => ⟨h, fun v hv => absurd hv (by unfold wuA; omega)⟩
  | n + 1, h => by
    unfold wuA
    by_cases q : wB ^ n ≤ X
    · rw [if_pos q]
      exact ⟨h, fun v hv => Nat.le_trans (Nat.pow_le_pow_right (by decide) (by omega)) q⟩
    · rw [if_neg q]
      exact wuA_spec X n (by omega)
theorem wu_le (X : Nat) : wu X ≤ 13 := wuA_le X 13
theorem wu_lt {X : Nat} (h : X < wB ^ 13) : X < wB ^ (wu X) := (wuA_spec X 13 h).1
theorem wu_ge {X : Nat} (h : X < wB ^ 13) {v : Nat} (hv : v < wu X) : wB ^ v ≤ X := (wuA_spec X 13 h).2 v hv
theorem wuA_eq {X : Nat} : ∀ (n k : Nat), k ≤ n → X < wB ^ k → wuA X n = wuA X k
  | 0, k, hk, _ => by rw [show k = 0 by omega]
  | n + 1, k, hk, h => by
    by_cases e : k = n + 1
    · rw [e]
    · have h2 : wuA X (n + 1) = wuA X n := by
        show (if wB ^ n ≤ X then n + 1 else wuA X n) = wuA X n
        rw [if_neg]
        have : wB ^ k ≤ wB ^ n := Nat.pow_le_pow_right (by decide) (by omega)
        omega
      rw [h2, wuA_eq n k (by omega) h]
theorem wu_zero {X : Nat} (h : X < wB ^ 13) : wu X = 0 ↔ X = 0 := by
  constructor
  · intro e
    have := wu_lt h
    rw [e] at this
    simp at this
    exact this
  · intro e
    subst e
    decide
