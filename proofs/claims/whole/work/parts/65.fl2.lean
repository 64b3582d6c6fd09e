/-! Polynomials by their values. -/
def pl_V (c : Nat → Int) (m : Nat) (t : Int) : Int := ds_S (fun k => c k * t ^ k) m
/-- a polynomial with at most m coefficients -/
def pl_P (m : Nat) (f : Int → Int) : Prop := ∃ c : Nat → Int, (∀ k, m ≤ k → c k = 0) ∧ ∀ t, f t = pl_V c m t
theorem pl_V_more {c : Nat → Int} {m : Nat} (h : ∀ k, m ≤ k → c k = 0) (t : Int) : ∀ e : Nat, pl_V c (m + e) t = pl_V c m t
  | 0 => rfl
  | e + 1 => by
    show pl_V c (m + e) t + c (m + e) * t ^ (m + e) = _
    rw [pl_V_more h t e, h (m + e) (by omega), Int.zero_mul, Int.add_zero]
theorem pl_V_ge {c : Nat → Int} {m m' : Nat} (h : ∀ k, m ≤ k → c k = 0) (hm : m ≤ m') (t : Int) : pl_V c m' t = pl_V c m t := by
  have := pl_V_more h t (m' - m)
  rw [show m + (m' - m) = m' by omega] at this
  exact this
theorem pl_V_add (c c' : Nat → Int) (m : Nat) (t : Int) : pl_V (fun k => c k + c' k) m t = pl_V c m t + pl_V c' m t := by
  unfold pl_V
  rw [← ds_S_add]
  exact ds_S_congr fun k _ => Int.add_mul _ _ _
theorem pl_V_smul (x : Int) (c : Nat → Int) (m : Nat) (t : Int) : pl_V (fun k => x * c k) m t = x * pl_V c m t := by
  unfold pl_V
  rw [← ds_S_mul]
  exact ds_S_congr fun k _ => Int.mul_assoc _ _ _
theorem pl_V_sub (c c' : Nat → Int) (m : Nat) (t : Int) : pl_V (fun k => c k - c' k) m t = pl_V c m t - pl_V c' m t := by
  unfold pl_V
  rw [← ds_S_sub]
  exact ds_S_congr fun k _ => Int.sub_mul _ _ _
theorem pl_V_sum (c : Nat → Nat → Int) (m : Nat) (t : Int) (n : Nat) : pl_V (fun k => ds_S (fun s => c s k) n) m t = ds_S (fun s => pl_V (c s) m t) n := by
  unfold pl_V
  rw [ds_S_swap]
  refine ds_S_congr fun k _ => ?_
  rw [Int.mul_comm, ← ds_S_mul]
  exact ds_S_congr fun s _ => Int.mul_comm _ _
def pl_sh (c : Nat → Int) : Nat → Int := fun k => if k = 0 then 0 else c (k - 1)
theorem pl_V_sh (c : Nat → Int) (m : Nat) (t : Int) : pl_V (pl_sh c) (m + 1) t = t * pl_V c m t := by
  unfold pl_V
  rw [ds_S_head, ← ds_S_mul]
  show (if (0 : Nat) = 0 then (0 : Int) else _) * t ^ 0 + _ = _
  rw [if_pos rfl, Int.zero_mul, Int.zero_add]
  refine ds_S_congr fun k _ => ?_
  show (if k + 1 = 0 then (0 : Int) else c (k + 1 - 1)) * t ^ (k + 1) = _
  rw [if_neg (by omega), show k + 1 - 1 = k by omega, Int.pow_succ]
  generalize c k = x
  generalize t ^ k = y
  grind
theorem pl_mono {m m' : Nat} {f : Int → Int} (h : pl_P m f) (hm : m ≤ m') : pl_P m' f := by
  obtain ⟨c, h1, h2⟩ := h
  exact ⟨c, fun k hk => h1 k (by omega), fun t => by rw [h2 t, pl_V_ge h1 hm]⟩
theorem pl_add {m : Nat} {f g : Int → Int} (hf : pl_P m f) (hg : pl_P m g) : pl_P m (fun t => f t + g t) := by
  obtain ⟨c, c1, c2⟩ := hf
  obtain ⟨d, d1, d2⟩ := hg
  exact ⟨fun k => c k + d k, fun k hk => by show c k + d k = 0; rw [c1 k hk, d1 k hk]; rfl, fun t => by rw [pl_V_add, ← c2, ← d2]⟩
theorem pl_smul {m : Nat} {f : Int → Int} (x : Int) (hf : pl_P m f) : pl_P m (fun t => x * f t) := by
  obtain ⟨c, c1, c2⟩ := hf
  exact ⟨fun k => x * c k, fun k hk => by show x * c k = 0; rw [c1 k hk, Int.mul_zero], fun t => by rw [pl_V_smul, ← c2]⟩
theorem pl_tmul {m : Nat} {f : Int → Int} (hf : pl_P m f) : pl_P (m + 1) (fun t => t * f t) := by
  obtain ⟨c, c1, c2⟩ := hf
  refine ⟨pl_sh c, fun k hk => ?_, fun t => by rw [pl_V_sh, ← c2]⟩
  unfold pl_sh
  rw [if_neg (by omega), c1 _ (by omega)]
theorem pl_zero (m : Nat) : pl_P m (fun _ => 0) := ⟨fun _ => 0, fun _ _ => rfl, fun _ => (ds_S_zero (fun _ _ => Int.zero_mul _)).symm⟩
theorem pl_one (m : Nat) : pl_P (m + 1) (fun _ => 1) := by
  refine ⟨fun k => if k = 0 then 1 else 0, fun k hk => if_neg (by omega), fun t => ?_⟩
  unfold pl_V
  rw [ds_S_head, ds_S_zero (fun k _ => by show (if k + 1 = 0 then (1 : Int) else 0) * t ^ (k + 1) = 0; rw [if_neg (by omega), Int.zero_mul])]
  show (1 : Int) = (if 0 = 0 then 1 else 0) * t ^ 0 + 0
  rw [if_pos rfl, Int.pow_zero]; rfl
theorem pl_sum {m : Nat} {f : Nat → Int → Int} : ∀ {n : Nat}, (∀ s, s < n → pl_P m (f s)) → pl_P m (fun t => ds_S (fun s => f s t) n)
  | 0, _ => pl_zero m
  | n + 1, h => pl_add (pl_sum (fun s hs => h s (by omega))) (h n (by omega))
theorem pl_pow : ∀ k : Nat, pl_P (k + 1) (fun t => t ^ k)
  | 0 => by
    obtain ⟨c, c1, c2⟩ := pl_one 0
    exact ⟨c, c1, fun t => by rw [← c2 t]; exact Int.pow_zero t⟩
  | k + 1 => by
    obtain ⟨c, c1, c2⟩ := pl_tmul (pl_pow k)
    refine ⟨c, c1, fun t => ?_⟩
    rw [← c2 t]
    show t ^ (k + 1) = t * t ^ k
    rw [Int.pow_succ, Int.mul_comm]
theorem pl_cg {m : Nat} {f g : Int → Int} (h : pl_P m f) (e : ∀ t, g t = f t) : pl_P m g := by
  obtain ⟨c, c1, c2⟩ := h
  exact ⟨c, c1, fun t => by rw [e t, c2 t]⟩
/-- a number with too large a divisor -/
theorem pl_dv0 {x : Int} (h : ∀ t : Int, 0 < t → t ∣ x) : x = 0 := by
  obtain ⟨y, hy⟩ := h (x.natAbs + 1) (by omega)
  have h1 : x.natAbs = (x.natAbs + 1) * y.natAbs := by
    have := congrArg Int.natAbs hy
    rw [Int.natAbs_mul, show ((x.natAbs : Int) + 1).natAbs = x.natAbs + 1 by omega] at this
    exact this
  rcases Nat.eq_zero_or_pos y.natAbs with q | q
  · rw [q] at h1; omega
  · have := Nat.mul_le_mul_left (x.natAbs + 1) q
    omega
/-- a polynomial without values has no coefficients -/
theorem pl_uq : ∀ (m : Nat) (c : Nat → Int), (∀ t : Int, 0 < t → pl_V c m t = 0) → ∀ k, k < m → c k = 0
  | 0, _, _, k, hk => absurd hk (by omega)
  | m + 1, c, h, k, hk => by
    have e : ∀ t : Int, pl_V c (m + 1) t = c 0 + t * pl_V (fun k => c (k + 1)) m t := fun t => by
      unfold pl_V
      rw [ds_S_head, ← ds_S_mul, Int.pow_zero, Int.mul_one]
      congr 1
      refine ds_S_congr fun k _ => ?_
      show c (k + 1) * t ^ (k + 1) = t * (c (k + 1) * t ^ k)
      rw [Int.pow_succ]
      generalize c (k + 1) = x
      generalize t ^ k = y
      grind
    have h0 : c 0 = 0 := pl_dv0 fun t ht => by
      have := h t ht
      rw [e t] at this
      exact ⟨- pl_V (fun k => c (k + 1)) m t, by rw [Int.mul_neg]; omega⟩
    rcases Nat.eq_zero_or_pos k with q | q
    · rw [q]; exact h0
    · have := pl_uq m (fun k => c (k + 1)) (fun t ht => by
        have := h t ht
        rw [e t, h0, Int.zero_add] at this
        rcases Int.mul_eq_zero.mp this with w | w
        · omega
        · exact w) (k - 1) (by omega)
      rw [show k = k - 1 + 1 by omega]; exact this
/-- the derivative -/
def pl_d (c : Nat → Int) : Nat → Int := fun k => ((k : Int) + 1) * c (k + 1)
theorem pl_pw (t h : Int) : ∀ k : Nat, ∃ R : Int, (t + h) ^ (k + 1) = t ^ (k + 1) + h * (((k : Int) + 1) * t ^ k) + h * h * R
  | 0 => ⟨0, by simp [Int.pow_succ]⟩
  | k + 1 => by
    obtain ⟨R, hR⟩ := pl_pw t h k
    refine ⟨R * (t + h) + ((k : Int) + 1) * t ^ k, ?_⟩
    rw [Int.pow_succ (t + h), hR, Int.pow_succ t (k + 1), Int.pow_succ t k]
    generalize t ^ k = y
    have : ((k + 1 : Nat) : Int) = (k : Int) + 1 := by omega
    rw [this]
    generalize (k : Int) = z
    grind
theorem pl_dv (c : Nat → Int) (t h : Int) : ∀ m : Nat, ∃ R : Int, pl_V c (m + 1) (t + h) = pl_V c (m + 1) t + h * pl_V (pl_d c) m t + h * h * R
  | 0 => ⟨0, by
    show 0 + c 0 * (t + h) ^ 0 = 0 + c 0 * t ^ 0 + h * 0 + h * h * 0
    rw [Int.pow_zero, Int.pow_zero]; omega⟩
  | m + 1 => by
    obtain ⟨R, hR⟩ := pl_dv c t h m
    obtain ⟨Q, hQ⟩ := pl_pw t h m
    refine ⟨R + c (m + 1) * Q, ?_⟩
    show pl_V c (m + 1) (t + h) + c (m + 1) * (t + h) ^ (m + 1) = (pl_V c (m + 1) t + c (m + 1) * t ^ (m + 1)) + h * (pl_V (pl_d c) m t + ((m : Int) + 1) * c (m + 1) * t ^ m) + h * h * (R + c (m + 1) * Q)
    rw [hR, hQ]
    generalize pl_V c (m + 1) t = v1
    generalize pl_V (pl_d c) m t = v2
    generalize c (m + 1) = x
    generalize t ^ (m + 1) = y1
    generalize t ^ m = y2
    generalize (m : Int) = z
    grind
