/-! Words of 28 bits. -/
abbrev bB : Nat := 268435456
def dg (X k : Nat) : Nat := X / bB ^ k % bB
theorem dg_lt (X k : Nat) : dg X k < bB := Nat.mod_lt _ (by decide)
theorem bp (k : Nat) : 0 < bB ^ k := Nat.pow_pos (by decide)
theorem dg_s (X k : Nat) : X % bB ^ (k + 1) = X % bB ^ k + bB ^ k * dg X k := by
  unfold dg
  rw [Nat.pow_succ, Nat.mod_mul]
theorem dg_0 {X k : Nat} (h : X < bB ^ k) : dg X k = 0 := by
  unfold dg
  rw [Nat.div_eq_of_lt h, Nat.zero_mod]
theorem dg_hi {X k n : Nat} (h : X < bB ^ n) (hk : n ≤ k) : dg X k = 0 := dg_0 (Nat.lt_of_lt_of_le h (Nat.pow_le_pow_right (by decide) hk))
theorem dg_z (k : Nat) : dg 0 k = 0 := by
  unfold dg
  rw [Nat.zero_div, Nat.zero_mod]
/-- X times b and c more: what is carried into word k -/
def cs (X b c k : Nat) : Nat := (X % bB ^ k * b + c) / bB ^ k
theorem cs_0 (X b c : Nat) : cs X b c 0 = c := by
  unfold cs
  rw [Nat.pow_zero, Nat.mod_one, Nat.zero_mul, Nat.zero_add, Nat.div_one]
theorem cs_v (X b c k : Nat) : (X % bB ^ (k + 1) * b + c) / bB ^ k = dg X k * b + cs X b c k := by
  unfold cs
  rw [dg_s, Nat.add_mul, Nat.mul_assoc, Nat.add_right_comm, Nat.add_comm, Nat.mul_add_div (bp k)]
theorem cs_s (X b c k : Nat) : (dg X k * b + cs X b c k) / bB = cs X b c (k + 1) := by
  rw [← cs_v, Nat.div_div_eq_div_mul, ← Nat.pow_succ]; rfl
theorem cs_d (X b c k : Nat) : (dg X k * b + cs X b c k) % bB = dg (X * b + c) k := by
  rw [← cs_v]
  unfold dg
  have e : X * b + c = bB ^ k * (bB * (X / bB ^ (k + 1) * b)) + (X % bB ^ (k + 1) * b + c) := by
    have h := Nat.div_add_mod X (bB ^ (k + 1))
    have h2 : X * b = (bB ^ (k + 1) * (X / bB ^ (k + 1)) + X % bB ^ (k + 1)) * b := by rw [h]
    rw [h2, Nat.add_mul, Nat.pow_succ]
    generalize X / (bB ^ k * bB) = q
    generalize X % (bB ^ k * bB) = r
    generalize bB ^ k = p
    grind
  rw [e, Nat.mul_add_div (bp k), Nat.mul_add_mod]
theorem cs_lt {X b c k B : Nat} (hb : b ≤ B) (hc : c < B) : cs X b c k ≤ B := by
  unfold cs
  have h1 : X % bB ^ k < bB ^ k := Nat.mod_lt _ (bp k)
  have h2 : X % bB ^ k * b ≤ (bB ^ k - 1) * B := Nat.mul_le_mul (by omega) hb
  have h3 : (bB ^ k - 1) * B = bB ^ k * B - B := by rw [Nat.sub_mul, Nat.one_mul]
  have h4 : B ≤ bB ^ k * B := Nat.le_mul_of_pos_left _ (bp k)
  refine Nat.div_le_of_le_mul ?_
  omega
/-- less: what is borrowed -/
def bw (X Y k : Nat) : Nat := if X % bB ^ k < Y % bB ^ k then 1 else 0
theorem bw_0 (X Y : Nat) : bw X Y 0 = 0 := by
  unfold bw
  rw [Nat.pow_zero, Nat.mod_one, Nat.mod_one]; rfl
theorem bw_lt (X Y k : Nat) : X % bB ^ k < Y % bB ^ k + bB ^ k := Nat.lt_of_lt_of_le (Nat.mod_lt _ (bp k)) (Nat.le_add_left _ _)
theorem bw_s (X Y k : Nat) : bw X Y (k + 1) = if dg X k < dg Y k + bw X Y k then 1 else 0 := by
  unfold bw
  rw [dg_s, dg_s]
  have h1 := Nat.mod_lt X (bp k)
  have h2 := Nat.mod_lt Y (bp k)
  generalize X % bB ^ k = x at *
  generalize Y % bB ^ k = y at *
  generalize dg X k = a
  generalize dg Y k = b
  generalize bB ^ k = p at *
  by_cases w : x < y
  · rw [if_pos w]
    by_cases w2 : a < b + 1
    · rw [if_pos w2, if_pos]
      have : p * a ≤ p * b := Nat.mul_le_mul_left _ (by omega)
      omega
    · rw [if_neg w2, if_neg]
      have : p * (b + 1) ≤ p * a := Nat.mul_le_mul_left _ (by omega)
      rw [Nat.mul_add] at this
      omega
  · rw [if_neg w, Nat.add_zero]
    by_cases w2 : a < b
    · rw [if_pos w2, if_pos]
      have : p * (a + 1) ≤ p * b := Nat.mul_le_mul_left _ (by omega)
      rw [Nat.mul_add] at this
      omega
    · rw [if_neg w2, if_neg]
      have : p * b ≤ p * a := Nat.mul_le_mul_left _ (by omega)
      omega
/-- the word of a difference -/
theorem bw_d {X Y : Nat} (h : Y ≤ X) (k : Nat) : dg (X - Y) k = (dg X k + bB - dg Y k - bw X Y k) % bB := by
  have key : ∀ k, (X - Y) % bB ^ k = X % bB ^ k + (if X % bB ^ k < Y % bB ^ k then bB ^ k else 0) - Y % bB ^ k := by
    intro k
    have h1 := Nat.div_add_mod X (bB ^ k)
    have h2 := Nat.div_add_mod Y (bB ^ k)
    have hx := Nat.mod_lt X (bp k)
    have hy := Nat.mod_lt Y (bp k)
    have hd : Y / bB ^ k ≤ X / bB ^ k := Nat.div_le_div_right h
    generalize X % bB ^ k = x at *
    generalize Y % bB ^ k = y at *
    by_cases w : x < y
    · rw [if_pos w]
      have hne : Y / bB ^ k ≠ X / bB ^ k := fun e => by rw [e] at h2; omega
      have hlt : Y / bB ^ k + 1 ≤ X / bB ^ k := by omega
      have e : X - Y = bB ^ k * (X / bB ^ k - Y / bB ^ k - 1) + (x + bB ^ k - y) := by
        have := Nat.mul_le_mul_left (bB ^ k) hlt
        rw [Nat.mul_add, Nat.mul_one] at this
        rw [Nat.mul_sub, Nat.mul_sub, Nat.mul_one]
        omega
      rw [e, Nat.mul_add_mod, Nat.mod_eq_of_lt (by omega)]
    · rw [if_neg w]
      have e : X - Y = bB ^ k * (X / bB ^ k - Y / bB ^ k) + (x - y) := by
        have := Nat.mul_le_mul_left (bB ^ k) hd
        rw [Nat.mul_sub]
        omega
      rw [e, Nat.mul_add_mod, Nat.mod_eq_of_lt (by omega), Nat.add_zero]
  have k1 := key (k + 1)
  have k0 := key k
  rw [dg_s (X - Y) k] at k1
  have b1 := bw_s X Y k
  unfold bw at b1 ⊢
  rw [dg_s X k, dg_s Y k] at k1 b1
  have hx := Nat.mod_lt X (bp k)
  have hy := Nat.mod_lt Y (bp k)
  have ha := dg_lt X k
  have hb := dg_lt Y k
  have hc := dg_lt (X - Y) k
  generalize dg (X - Y) k = z at *
  generalize dg X k = a at *
  generalize dg Y k = b at *
  generalize X % bB ^ k = x at *
  generalize Y % bB ^ k = y at *
  rw [k0] at k1
  rw [Nat.pow_succ] at k1
  generalize bB ^ k = p at *
  -- p z = ...
  have hp : 0 < p := by omega
  by_cases w : x < y
  · rw [if_pos w] at k1 b1 ⊢
    by_cases w2 : a < b + 1
    · rw [if_pos w2] at b1
      have w3 : x + p * a < y + p * b := by
        by_cases q : x + p * a < y + p * b
        · exact q
        · rw [if_neg q] at b1; omega
      rw [if_pos w3] at k1
      have e : p * z = p * (a + bB - b - 1) := by
        have e1 : p * (a + bB - b - 1) = p * a + p * bB - p * b - p := by
          rw [Nat.mul_sub, Nat.mul_sub, Nat.mul_add, Nat.mul_one]
        have : p * b + p ≤ p * bB := by
          have := Nat.mul_le_mul_left p (show b + 1 ≤ bB by omega)
          rw [Nat.mul_add, Nat.mul_one] at this
          exact this
        omega
      rw [Nat.eq_of_mul_eq_mul_left hp e, Nat.mod_eq_of_lt (by omega)]
    · rw [if_neg w2] at b1
      have w3 : ¬ x + p * a < y + p * b := fun q => by rw [if_pos q] at b1; omega
      rw [if_neg w3] at k1
      have e : p * z = p * (a - b - 1) := by
        have e1 : p * (a - b - 1) = p * a - p * b - p := by rw [Nat.mul_sub, Nat.mul_sub, Nat.mul_one]
        have : p * b + p ≤ p * a := by
          have := Nat.mul_le_mul_left p (show b + 1 ≤ a by omega)
          rw [Nat.mul_add, Nat.mul_one] at this
          exact this
        omega
      rw [Nat.eq_of_mul_eq_mul_left hp e, show a + bB - b - 1 = (a - b - 1) + bB by omega, Nat.add_mod_right, Nat.mod_eq_of_lt (by omega)]
  · rw [if_neg w] at k1 b1 ⊢
    by_cases w2 : a < b
    · rw [Nat.add_zero, if_pos w2] at b1
      have w3 : x + p * a < y + p * b := by
        by_cases q : x + p * a < y + p * b
        · exact q
        · rw [if_neg q] at b1; omega
      rw [if_pos w3] at k1
      have e : p * z = p * (a + bB - b) := by
        have e1 : p * (a + bB - b) = p * a + p * bB - p * b := by rw [Nat.mul_sub, Nat.mul_add]
        have : p * b ≤ p * bB := Nat.mul_le_mul_left p (by omega)
        omega
      rw [Nat.eq_of_mul_eq_mul_left hp e, Nat.sub_zero, Nat.mod_eq_of_lt (by omega)]
    · rw [Nat.add_zero, if_neg w2] at b1
      have w3 : ¬ x + p * a < y + p * b := fun q => by rw [if_pos q] at b1; omega
      rw [if_neg w3] at k1
      have e : p * z = p * (a - b) := by
        have e1 : p * (a - b) = p * a - p * b := by rw [Nat.mul_sub]
        have : p * b ≤ p * a := Nat.mul_le_mul_left p (by omega)
        omega
      rw [Nat.eq_of_mul_eq_mul_left hp e, Nat.sub_zero, show a + bB - b = (a - b) + bB by omega, Nat.add_mod_right, Nat.mod_eq_of_lt (by omega)]
/-- two numbers by their highest words -/
theorem dg_eq {X Y n : Nat} (hX : X < bB ^ n) (hY : Y < bB ^ n) (h : ∀ k, k < n → dg X k = dg Y k) : X = Y := by
  have key : ∀ m, m ≤ n → X % bB ^ m = Y % bB ^ m := by
    intro m
    induction m with
    | zero => intro _; rw [Nat.pow_zero, Nat.mod_one, Nat.mod_one]
    | succ m ih => intro hm; rw [dg_s, dg_s, ih (by omega), h m (by omega)]
  have := key n (Nat.le_refl n)
  rw [Nat.mod_eq_of_lt hX, Nat.mod_eq_of_lt hY] at this
  exact this
theorem dg_cmp {X Y n k : Nat} (hX : X < bB ^ n) (hY : Y < bB ^ n) (hk : k < n) (h : ∀ j, k < j → j < n → dg X j = dg Y j) (hd : dg X k ≠ dg Y k) : X < Y ↔ dg X k < dg Y k := by
  have key : ∀ m, k + 1 + m ≤ n → ∃ q, X % bB ^ (k + 1 + m) = X % bB ^ (k + 1) + q ∧ Y % bB ^ (k + 1 + m) = Y % bB ^ (k + 1) + q := by
    intro m
    induction m with
    | zero => intro _; exact ⟨0, rfl, rfl⟩
    | succ m ih =>
      intro hm
      obtain ⟨q, e1, e2⟩ := ih (by omega)
      refine ⟨q + bB ^ (k + 1 + m) * dg X (k + 1 + m), ?_, ?_⟩
      · rw [show k + 1 + (m + 1) = (k + 1 + m) + 1 from rfl, dg_s, e1]; omega
      · rw [show k + 1 + (m + 1) = (k + 1 + m) + 1 from rfl, dg_s, e2, h (k + 1 + m) (by omega) (by omega)]; omega
  obtain ⟨q, e1, e2⟩ := key (n - (k + 1)) (by omega)
  rw [show k + 1 + (n - (k + 1)) = n by omega, Nat.mod_eq_of_lt hX, dg_s] at e1
  rw [show k + 1 + (n - (k + 1)) = n by omega, Nat.mod_eq_of_lt hY, dg_s] at e2
  have hx := Nat.mod_lt X (bp k)
  have hy := Nat.mod_lt Y (bp k)
  generalize dg X k = a at *
  generalize dg Y k = b at *
  generalize X % bB ^ k = x at *
  generalize Y % bB ^ k = y at *
  generalize bB ^ k = p at *
  rcases Nat.lt_or_ge a b with w | w
  · have : p * (a + 1) ≤ p * b := Nat.mul_le_mul_left _ w
    rw [Nat.mul_add, Nat.mul_one] at this
    constructor
    · intro _; exact w
    · intro _; omega
  · have : p * (b + 1) ≤ p * a := Nat.mul_le_mul_left _ (by omega)
    rw [Nat.mul_add, Nat.mul_one] at this
    constructor
    · intro _; omega
    · intro _; omega
