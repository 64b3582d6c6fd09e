/-! Determinants by the last row, over chosen columns; Cramer's numbers; Bareiss' steps are exact. -/
def ds_S (f : Nat → Int) : Nat → Int
  | 0 => 0
  | n + 1 => ds_S f n + f n
theorem ds_S_congr {f g : Nat → Int} : ∀ {n : Nat}, (∀ i, i < n → f i = g i) → ds_S f n = ds_S g n
  | 0, _ => rfl
  | n + 1, h => by
    show ds_S f n + f n = ds_S g n + g n
    rw [ds_S_congr (fun i hi => h i (by omega)), h n (by omega)]
theorem ds_S_add (f g : Nat → Int) : ∀ n : Nat, ds_S (fun i => f i + g i) n = ds_S f n + ds_S g n
  | 0 => rfl
  | n + 1 => by
    show ds_S (fun i => f i + g i) n + (f n + g n) = (ds_S f n + f n) + (ds_S g n + g n)
    rw [ds_S_add f g n]; omega
theorem ds_S_mul (c : Int) (f : Nat → Int) : ∀ n : Nat, ds_S (fun i => c * f i) n = c * ds_S f n
  | 0 => by simp [ds_S]
  | n + 1 => by
    show ds_S (fun i => c * f i) n + c * f n = c * (ds_S f n + f n)
    rw [ds_S_mul c f n, Int.mul_add]
theorem ds_S_neg (f : Nat → Int) (n : Nat) : ds_S (fun i => - f i) n = - ds_S f n := by
  have := ds_S_mul (-1) f n
  rw [ds_S_congr (g := fun i => -1 * f i) (fun i _ => by omega), this]; omega
theorem ds_S_sub (f g : Nat → Int) (n : Nat) : ds_S (fun i => f i - g i) n = ds_S f n - ds_S g n := by
  rw [ds_S_congr (g := fun i => f i + (- g i)) (fun i _ => by omega), ds_S_add, ds_S_neg]; omega
theorem ds_S_zero {f : Nat → Int} {n : Nat} (h : ∀ i, i < n → f i = 0) : ds_S f n = 0 := by
  rw [ds_S_congr (g := fun _ => 0 * 0) (fun i hi => by rw [h i hi]; rfl), ds_S_mul]; omega
theorem ds_S_tri (h : Nat → Nat → Int) : ∀ n : Nat, ds_S (fun s => ds_S (fun t => h s t) n) (n + 1) = ds_S (fun j => ds_S (fun i => h i j + h (j + 1) i) (j + 1)) n
  | 0 => by simp [ds_S]
  | n + 1 => by
    have e1 : ds_S (fun s => ds_S (fun t => h s t) (n + 1)) (n + 2) = ds_S (fun s => ds_S (fun t => h s t) n + h s n) (n + 1) + ds_S (fun t => h (n + 1) t) (n + 1) := rfl
    have e2 : ds_S (fun j => ds_S (fun i => h i j + h (j + 1) i) (j + 1)) (n + 1) = ds_S (fun j => ds_S (fun i => h i j + h (j + 1) i) (j + 1)) n + ds_S (fun i => h i n + h (n + 1) i) (n + 1) := rfl
    have e3 : ds_S (fun t => h (n + 1) t) (n + 1) = ds_S (h (n + 1)) (n + 1) := rfl
    rw [e1, e2, ds_S_add, ds_S_add, ds_S_tri h n, e3]; omega
/-- columns without the one at place s -/
def ds_E (J : Nat → Nat) (s : Nat) : Nat → Nat := fun t => if t < s then J t else J (t + 1)
theorem ds_E_dE (J : Nat → Nat) {s t : Nat} (h : s ≤ t) : ds_E (ds_E J s) t = ds_E (ds_E J (t + 1)) s := by
  funext u
  unfold ds_E
  by_cases h1 : u < s
  · rw [if_pos (show u < t by omega), if_pos h1, if_pos h1, if_pos (show u < t + 1 by omega)]
  · by_cases h2 : u < t
    · rw [if_pos h2, if_neg h1, if_neg h1, if_pos (show u + 1 < t + 1 by omega)]
    · rw [if_neg h2, if_neg (show ¬ u + 1 < s by omega), if_neg h1, if_neg (show ¬ u + 1 < t + 1 by omega)]
def ds_G (n : Nat) : Int := if n % 2 = 0 then 1 else -1
theorem ds_G_s (n : Nat) : ds_G (n + 1) = - ds_G n := by
  unfold ds_G
  by_cases h : n % 2 = 0
  · rw [if_pos h, if_neg (by omega)]
  · rw [if_neg h, if_pos (by omega)]; rfl
theorem ds_G_2 (n : Nat) : ds_G (n + n) = 1 := by
  unfold ds_G
  rw [if_pos (by omega)]
theorem ds_G_sq (n : Nat) : ds_G n * ds_G n = 1 := by
  unfold ds_G
  by_cases h : n % 2 = 0
  · rw [if_pos h]; rfl
  · rw [if_neg h]; rfl
/-- rows 0 .. k - 1, columns J 0 .. J (k - 1) -/
def ds_D (a : Nat → Nat → Int) : Nat → (Nat → Nat) → Int
  | 0, _ => 1
  | k + 1, J => ds_S (fun s => ds_G (k + s) * a k (J s) * ds_D a k (ds_E J s)) (k + 1)
/-- the same with another last row r -/
def ds_F (a : Nat → Nat → Int) (k : Nat) (r : Nat → Int) (J : Nat → Nat) : Int := ds_S (fun s => ds_G (k + s) * r (J s) * ds_D a k (ds_E J s)) (k + 1)
theorem ds_D_s (a : Nat → Nat → Int) (k : Nat) (J : Nat → Nat) : ds_D a (k + 1) J = ds_F a k (a k) J := rfl
theorem ds_D_congr (a : Nat → Nat → Int) : ∀ (k : Nat) {J J' : Nat → Nat}, (∀ t, t < k → J t = J' t) → ds_D a k J = ds_D a k J'
  | 0, _, _, _ => rfl
  | k + 1, J, J', h => by
    refine ds_S_congr fun s hs => ?_
    rw [h s hs, ds_D_congr a k (J := ds_E J s) (J' := ds_E J' s) fun t ht => ?_]
    unfold ds_E
    by_cases h1 : t < s
    · rw [if_pos h1, if_pos h1, h t (by omega)]
    · rw [if_neg h1, if_neg h1, h (t + 1) (by omega)]
theorem ds_F_congr (a : Nat → Nat → Int) (k : Nat) (r : Nat → Int) {J J' : Nat → Nat} (h : ∀ t, t < k + 1 → J t = J' t) : ds_F a k r J = ds_F a k r J' := by
  refine ds_S_congr fun s hs => ?_
  rw [h s hs, ds_D_congr a k (J := ds_E J s) (J' := ds_E J' s) fun t ht => ?_]
  unfold ds_E
  by_cases h1 : t < s
  · rw [if_pos h1, if_pos h1, h t (by omega)]
  · rw [if_neg h1, if_neg h1, h (t + 1) (by omega)]
/-- two rows by turns -/
def ds_H (a : Nat → Nat → Int) (k : Nat) (r q : Nat → Int) (J : Nat → Nat) (s t : Nat) : Int := ds_G (k + 1 + s) * r (J s) * (ds_G (k + t) * q (ds_E J s t) * ds_D a k (ds_E (ds_E J s) t))
theorem ds_H_anti (a : Nat → Nat → Int) (k : Nat) (r q : Nat → Int) (J : Nat → Nat) {i j : Nat} (h : i ≤ j) : ds_H a k r q J i j = - ds_H a k q r J (j + 1) i := by
  unfold ds_H
  rw [ds_E_dE J h]
  have e1 : ds_E J i j = J (j + 1) := by unfold ds_E; rw [if_neg (by omega)]
  have e2 : ds_E J (j + 1) i = J i := by unfold ds_E; rw [if_pos (by omega)]
  rw [e1, e2, show k + 1 + i = (k + i) + 1 by omega, show k + 1 + (j + 1) = (k + j) + 1 + 1 by omega, ds_G_s, ds_G_s, ds_G_s]
  generalize ds_G (k + i) = x
  generalize ds_G (k + j) = y
  generalize r (J i) = u
  generalize q (J (j + 1)) = v
  generalize ds_D a k (ds_E (ds_E J (j + 1)) i) = w
  grind
def ds_GG (a : Nat → Nat → Int) (k : Nat) (r q : Nat → Int) (J : Nat → Nat) : Int := ds_S (fun s => ds_S (fun t => ds_H a k r q J s t) (k + 1)) (k + 2)
theorem ds_GG_eq (a : Nat → Nat → Int) (k : Nat) (r q : Nat → Int) (J : Nat → Nat) : ds_GG a k r q J = ds_S (fun s => ds_G (k + 1 + s) * r (J s) * ds_F a k q (ds_E J s)) (k + 2) := by
  refine ds_S_congr fun s _ => ?_
  show ds_S (fun t => ds_H a k r q J s t) (k + 1) = _
  unfold ds_F
  rw [← ds_S_mul]
  rfl
theorem ds_GG_anti (a : Nat → Nat → Int) (k : Nat) (r q : Nat → Int) (J : Nat → Nat) : ds_GG a k r q J = - ds_GG a k q r J := by
  unfold ds_GG
  rw [ds_S_tri, ds_S_tri, ← ds_S_neg]
  refine ds_S_congr fun j _ => ?_
  show _ = - ds_S _ _
  rw [← ds_S_neg]
  refine ds_S_congr fun i hi => ?_
  have h1 := ds_H_anti a k r q J (i := i) (j := j) (by omega)
  have h2 := ds_H_anti a k q r J (i := i) (j := j) (by omega)
  omega
theorem ds_F_alien (a : Nat → Nat → Int) : ∀ (k i : Nat) (J : Nat → Nat), i < k → ds_F a k (a i) J = 0
  | 0, _, _, h => absurd h (by omega)
  | k + 1, i, J, h => by
    have e : ds_F a (k + 1) (a i) J = ds_GG a k (a i) (a k) J := by rw [ds_GG_eq]; rfl
    rw [e]
    by_cases hk : i = k
    · subst hk
      have := ds_GG_anti a i (a i) (a i) J
      omega
    · rw [ds_GG_anti, ds_GG_eq, ds_S_zero fun s _ => by rw [ds_F_alien a k i _ (by omega), Int.mul_zero]]
      rfl
/-- columns 0 .. k - 1, then j -/
def ds_J (k j : Nat) : Nat → Nat := fun t => if t < k then t else j
def ds_d (a : Nat → Nat → Int) (k : Nat) : Int := ds_D a k (fun t => t)
def ds_C (a : Nat → Nat → Int) (k t j : Nat) : Int := ds_G (k + t + 1) * ds_D a k (ds_E (ds_J k j) t)
def ds_m (a : Nat → Nat → Int) (k i j : Nat) : Int := ds_F a k (a i) (ds_J k j)
theorem ds_m_eq (a : Nat → Nat → Int) (k i j : Nat) : ds_m a k i j = a i j * ds_d a k - ds_S (fun s => a i s * ds_C a k s j) k := by
  show ds_S (fun s => ds_G (k + s) * a i (ds_J k j s) * ds_D a k (ds_E (ds_J k j) s)) k + ds_G (k + k) * a i (ds_J k j k) * ds_D a k (ds_E (ds_J k j) k) = _
  have e1 : ds_J k j k = j := by unfold ds_J; rw [if_neg (by omega)]
  have e2 : ds_D a k (ds_E (ds_J k j) k) = ds_d a k := by
    refine ds_D_congr a k fun t ht => ?_
    unfold ds_E ds_J
    rw [if_pos ht, if_pos ht]
  have e3 : ds_S (fun s => ds_G (k + s) * a i (ds_J k j s) * ds_D a k (ds_E (ds_J k j) s)) k = - ds_S (fun s => a i s * ds_C a k s j) k := by
    rw [← ds_S_neg]
    refine ds_S_congr fun s hs => ?_
    have : ds_J k j s = s := by unfold ds_J; rw [if_pos hs]
    unfold ds_C
    rw [this, ds_G_s]
    generalize ds_G (k + s) = x
    generalize a i s = u
    generalize ds_D a k (ds_E (ds_J k j) s) = v
    grind
  rw [e1, e2, e3, ds_G_2]
  generalize ds_S (fun s => a i s * ds_C a k s j) k = z
  generalize a i j = u
  generalize ds_d a k = v
  grind
/-- Cramer: the numbers ds_C solve the first k rows -/
theorem ds_C_solves (a : Nat → Nat → Int) (k i j : Nat) (h : i < k) : ds_S (fun s => a i s * ds_C a k s j) k = a i j * ds_d a k := by
  have h1 := ds_F_alien a k i (ds_J k j) h
  have h2 := ds_m_eq a k i j
  unfold ds_m at h2
  omega
theorem ds_d_s (a : Nat → Nat → Int) (k : Nat) : ds_d a (k + 1) = ds_m a k k k := by
  unfold ds_d ds_m
  rw [ds_D_s]
  refine ds_F_congr a k _ fun t ht => ?_
  unfold ds_J
  by_cases h : t < k
  · rw [if_pos h]
  · rw [if_neg h]; omega
theorem ds_C_new (a : Nat → Nat → Int) (k j : Nat) : ds_C a (k + 1) k j = ds_m a k k j := by
  unfold ds_C ds_m
  rw [show k + 1 + k + 1 = (k + 1) + (k + 1) by omega, ds_G_2, Int.one_mul, ds_D_s]
  refine ds_F_congr a k _ fun t ht => ?_
  unfold ds_E ds_J
  by_cases h : t < k
  · rw [if_pos h, if_pos (by omega), if_pos h]
  · rw [if_neg h, if_neg (by omega), if_neg h]
/-- the first k columns of the first k rows are one to one, where no pivot is 0 -/
theorem ds_d_inj (a : Nat → Nat → Int) : ∀ (k : Nat) (x : Nat → Int), (∀ i, 1 ≤ i → i ≤ k → ds_d a i ≠ 0) → (∀ i, i < k → ds_S (fun t => a i t * x t) k = 0) → ∀ t, t < k → x t = 0
  | 0, _, _, _, t, ht => absurd ht (by omega)
  | k + 1, x, hd, h, t, ht => by
    have hdk : ds_d a k ≠ 0 := by
      rcases Nat.eq_zero_or_pos k with q | q
      · subst q
        show (1 : Int) ≠ 0
        decide
      · exact hd k q (by omega)
    have key : ∀ t, t < k → ds_d a k * x t + x k * ds_C a k t k = 0 := by
      refine ds_d_inj a k (fun t => ds_d a k * x t + x k * ds_C a k t k) (fun i h1 h2 => hd i h1 (by omega)) fun i hi => ?_
      have e1 : ds_S (fun t => a i t * (ds_d a k * x t + x k * ds_C a k t k)) k = ds_d a k * ds_S (fun t => a i t * x t) k + x k * ds_S (fun t => a i t * ds_C a k t k) k := by
        rw [← ds_S_mul, ← ds_S_mul, ← ds_S_add]
        refine ds_S_congr fun s _ => ?_
        generalize a i s = u
        generalize ds_d a k = v
        generalize x s = w
        generalize x k = y
        generalize ds_C a k s k = z
        grind
      have e2 : ds_S (fun t => a i t * x t) k + a i k * x k = 0 := h i (by omega)
      rw [e1, ds_C_solves a k i k hi]
      generalize ds_S (fun t => a i t * x t) k = u at e2 ⊢
      generalize ds_d a k = v
      generalize a i k = w at e2 ⊢
      generalize x k = y at e2 ⊢
      have : u = - (w * y) := by omega
      subst this
      grind
    have e3 : ds_S (fun t => a k t * x t) k + a k k * x k = 0 := h k (by omega)
    have e4 : ds_d a k * ds_S (fun t => a k t * x t) k = - (x k * ds_S (fun t => a k t * ds_C a k t k) k) := by
      rw [← ds_S_mul, ← ds_S_mul, ← ds_S_neg]
      refine ds_S_congr fun s hs => ?_
      have := key s hs
      generalize a k s = u
      generalize ds_d a k = v at this ⊢
      generalize x s = w at this ⊢
      generalize x k = y at this ⊢
      generalize ds_C a k s k = z at this ⊢
      have h1 : v * w = - (y * z) := by omega
      grind
    have e5 : x k * ds_d a (k + 1) = 0 := by
      rw [ds_d_s, ds_m_eq]
      generalize ds_S (fun s => a k s * ds_C a k s k) k = u at e4 ⊢
      generalize ds_S (fun t => a k t * x t) k = w at e3 e4
      generalize a k k = y at e3 ⊢
      generalize ds_d a k = v at e4 ⊢
      generalize x k = z at e3 e4 ⊢
      have : w = - (y * z) := by omega
      subst this
      grind
    have hk : x k = 0 := by
      rcases Int.mul_eq_zero.mp e5 with q | q
      · exact q
      · exact absurd q (hd (k + 1) (by omega) (by omega))
    by_cases htk : t < k
    · have := key t htk
      rw [hk, Int.zero_mul, Int.add_zero] at this
      rcases Int.mul_eq_zero.mp this with q | q
      · exact absurd q hdk
      · exact q
    · have : t = k := by omega
      rw [this, hk]
/-- Bareiss' step in the rows above the pivot -/
theorem ds_C_step (a : Nat → Nat → Int) (k j t : Nat) (hd : ∀ i, 1 ≤ i → i ≤ k → ds_d a i ≠ 0) (ht : t < k) : ds_d a k * ds_C a (k + 1) t j = ds_d a (k + 1) * ds_C a k t j - ds_C a k t k * ds_m a k k j := by
  have key := ds_d_inj a k (fun t => ds_d a k * ds_C a (k + 1) t j - (ds_d a (k + 1) * ds_C a k t j - ds_C a k t k * ds_m a k k j)) hd (fun i hi => by
    have e1 : ds_S (fun t => a i t * (ds_d a k * ds_C a (k + 1) t j - (ds_d a (k + 1) * ds_C a k t j - ds_C a k t k * ds_m a k k j))) k = ds_d a k * ds_S (fun t => a i t * ds_C a (k + 1) t j) k - (ds_d a (k + 1) * ds_S (fun t => a i t * ds_C a k t j) k - ds_m a k k j * ds_S (fun t => a i t * ds_C a k t k) k) := by
      rw [← ds_S_mul, ← ds_S_mul, ← ds_S_mul, ← ds_S_sub, ← ds_S_sub]
      refine ds_S_congr fun s _ => ?_
      generalize a i s = u
      generalize ds_d a k = v
      generalize ds_C a (k + 1) s j = w
      generalize ds_d a (k + 1) = y
      generalize ds_C a k s j = z
      generalize ds_C a k s k = p
      generalize ds_m a k k j = q
      grind
    have e2 : ds_S (fun s => a i s * ds_C a (k + 1) s j) k + a i k * ds_C a (k + 1) k j = a i j * ds_d a (k + 1) := ds_C_solves a (k + 1) i j (by omega)
    rw [ds_C_new] at e2
    rw [e1, ds_C_solves a k i j hi, ds_C_solves a k i k hi]
    generalize ds_S (fun t => a i t * ds_C a (k + 1) t j) k = u at e2 ⊢
    generalize ds_d a k = v
    generalize ds_d a (k + 1) = y at e2 ⊢
    generalize ds_m a k k j = q at e2 ⊢
    generalize a i k = w at e2 ⊢
    generalize a i j = z at e2 ⊢
    have : u = z * y - w * q := by omega
    subst this
    grind) t ht
  omega
/-- and in those below it -/
theorem ds_m_step (a : Nat → Nat → Int) (k i j : Nat) (hd : ∀ i, 1 ≤ i → i ≤ k → ds_d a i ≠ 0) : ds_d a k * ds_m a (k + 1) i j = ds_d a (k + 1) * ds_m a k i j - ds_m a k i k * ds_m a k k j := by
  rw [ds_m_eq a (k + 1) i j, ds_m_eq a k i j, ds_m_eq a k i k]
  have e0 : ds_S (fun s => a i s * ds_C a (k + 1) s j) (k + 1) = ds_S (fun s => a i s * ds_C a (k + 1) s j) k + a i k * ds_C a (k + 1) k j := rfl
  rw [e0, ds_C_new]
  have e1 : ds_d a k * ds_S (fun s => a i s * ds_C a (k + 1) s j) k = ds_d a (k + 1) * ds_S (fun s => a i s * ds_C a k s j) k - ds_m a k k j * ds_S (fun s => a i s * ds_C a k s k) k := by
    rw [← ds_S_mul, ← ds_S_mul, ← ds_S_mul, ← ds_S_sub]
    refine ds_S_congr fun s hs => ?_
    have := ds_C_step a k j s hd hs
    generalize a i s = u
    generalize ds_d a k = v at this ⊢
    generalize ds_C a (k + 1) s j = w at this ⊢
    generalize ds_d a (k + 1) = y at this ⊢
    generalize ds_C a k s j = z at this ⊢
    generalize ds_C a k s k = p at this ⊢
    generalize ds_m a k k j = q at this ⊢
    grind
  generalize ds_S (fun s => a i s * ds_C a (k + 1) s j) k = u at e1 ⊢
  generalize ds_S (fun s => a i s * ds_C a k s j) k = u2 at e1 ⊢
  generalize ds_S (fun s => a i s * ds_C a k s k) k = u3 at e1 ⊢
  generalize ds_d a k = v at e1 ⊢
  generalize ds_d a (k + 1) = y at e1 ⊢
  generalize ds_m a k k j = q at e1 ⊢
  generalize a i j = z
  generalize a i k = w
  grind
