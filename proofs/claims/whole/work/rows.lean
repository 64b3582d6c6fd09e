section
/-! Determinants by the last row, over chosen columns; Cramer's numbers; Bareiss' steps are exact. -/
def ds_S (f : Nat → Int) : Nat → Int
  | 0 => 0
  | n + 1 => ds_S f n + f n
theorem ds_S_congr {f g : Nat → Int} : ∀ {n : Nat}, (∀ i, i < n → f i = g i) → ds_S f n = ds_S g n
  | 0, _ => rfl
  | n + 1, h => by
    show ds_S f n + f n = ds_S g n + g n
    rw [ds_S_congr (fun i hi => h i (by omega)), h n (by omega)]
theorem ds_S_add (f g : Nat → Int) : ∀ n : Nat, ds_S (fun i => f i + g i) n = ds_S f n + ds_S g n
  | 0 => rfl
  | n + 1 => by
    show ds_S (fun i => f i + g i) n + (f n + g n) = (ds_S f n + f n) + (ds_S g n + g n)
    rw [ds_S_add f g n]; omega
theorem ds_S_mul (c : Int) (f : Nat → Int) : ∀ n : Nat, ds_S (fun i => c * f i) n = c * ds_S f n
  | 0 => by simp [ds_S]
  | n + 1 => by
    show ds_S (fun i => c * f i) n + c * f n = c * (ds_S f n + f n)
    rw [ds_S_mul c f n, Int.mul_add]
theorem ds_S_neg (f : Nat → Int) (n : Nat) : ds_S (fun i => - f i) n = - ds_S f n := by
  have := ds_S_mul (-1) f n
  rw [ds_S_congr (g := fun i => -1 * f i) (fun i _ => by omega), this]; omega
theorem ds_S_sub (f g : Nat → Int) (n : Nat) : ds_S (fun i => f i - g i) n = ds_S f n - ds_S g n := by
  rw [ds_S_congr (g := fun i => f i + (- g i)) (fun i _ => by omega), ds_S_add, ds_S_neg]; omega
theorem ds_S_zero {f : Nat → Int} {n : Nat} (h : ∀ i, i < n → f i = 0) : ds_S f n = 0 := by
  rw [ds_S_congr (g := fun _ => 0 * 0) (fun i hi => by rw [h i hi]; rfl), ds_S_mul]; omega
theorem ds_S_tri (h : Nat → Nat → Int) : ∀ n : Nat, ds_S (fun s => ds_S (fun t => h s t) n) (n + 1) = ds_S (fun j => ds_S (fun i => h i j + h (j + 1) i) (j + 1)) n
  | 0 => by simp [ds_S]
  | n + 1 => by
    have e1 : ds_S (fun s => ds_S (fun t => h s t) (n + 1)) (n + 2) = ds_S (fun s => ds_S (fun t => h s t) n + h s n) (n + 1) + ds_S (fun t => h (n + 1) t) (n + 1) := rfl
    have e2 : ds_S (fun j => ds_S (fun i => h i j + h (j + 1) i) (j + 1)) (n + 1) = ds_S (fun j => ds_S (fun i => h i j + h (j + 1) i) (j + 1)) n + ds_S (fun i => h i n + h (n + 1) i) (n + 1) := rfl
    have e3 : ds_S (fun t => h (n + 1) t) (n + 1) = ds_S (h (n + 1)) (n + 1) := rfl
    rw [e1, e2, ds_S_add, ds_S_add, ds_S_tri h n, e3]; omega
/-- columns without the one at place s -/
def ds_E (J : Nat → Nat) (s : Nat) : Nat → Nat := fun t => if t < s then J t else J (t + 1)
theorem ds_E_dE (J : Nat → Nat) {s t : Nat} (h : s ≤ t) : ds_E (ds_E J s) t = ds_E (ds_E J (t + 1)) s := by
  funext u
  unfold ds_E
  by_cases h1 : u < s
  · rw [if_pos (show u < t by omega), if_pos h1, if_pos h1, if_pos (show u < t + 1 by omega)]
  · by_cases h2 : u < t
    · rw [if_pos h2, if_neg h1, if_neg h1, if_pos (show u + 1 < t + 1 by omega)]
    · rw [if_neg h2, if_neg (show ¬ u + 1 < s by omega), if_neg h1, if_neg (show ¬ u + 1 < t + 1 by omega)]
def ds_G (n : Nat) : Int := if n % 2 = 0 then 1 else -1
theorem ds_G_s (n : Nat) : ds_G (n + 1) = - ds_G n := by
  unfold ds_G
  by_cases h : n % 2 = 0
  · rw [if_pos h, if_neg (by omega)]
  · rw [if_neg h, if_pos (by omega)]; rfl
theorem ds_G_2 (n : Nat) : ds_G (n + n) = 1 := by
  unfold ds_G
  rw [if_pos (by omega)]
theorem ds_G_sq (n : Nat) : ds_G n * ds_G n = 1 := by
  unfold ds_G
  by_cases h : n % 2 = 0
  · rw [if_pos h]; rfl
  · rw [if_neg h]; rfl
/-- rows 0 .. k - 1, columns J 0 .. J (k - 1) -/
def ds_D (a : Nat → Nat → Int) : Nat → (Nat → Nat) → Int
  | 0, _ => 1
  | k + 1, J => ds_S (fun s => ds_G (k + s) * a k (J s) * ds_D a k (ds_E J s)) (k + 1)
/-- the same with another last row r -/
def ds_F (a : Nat → Nat → Int) (k : Nat) (r : Nat → Int) (J : Nat → Nat) : Int := ds_S (fun s => ds_G (k + s) * r (J s) * ds_D a k (ds_E J s)) (k + 1)
theorem ds_D_s (a : Nat → Nat → Int) (k : Nat) (J : Nat → Nat) : ds_D a (k + 1) J = ds_F a k (a k) J := rfl
theorem ds_D_congr (a : Nat → Nat → Int) : ∀ (k : Nat) {J J' : Nat → Nat}, (∀ t, t < k → J t = J' t) → ds_D a k J = ds_D a k J'
  | 0, _, _, _ => rfl
  | k + 1, J, J', h => by
    refine ds_S_congr fun s hs => ?_
    rw [h s hs, ds_D_congr a k (J := ds_E J s) (J' := ds_E J' s) fun t ht => ?_]
    unfold ds_E
    by_cases h1 : t < s
    · rw [if_pos h1, if_pos h1, h t (by omega)]
    · rw [if_neg h1, if_neg h1, h (t + 1) (by omega)]
theorem ds_F_congr (a : Nat → Nat → Int) (k : Nat) (r : Nat → Int) {J J' : Nat → Nat} (h : ∀ t, t < k + 1 → J t = J' t) : ds_F a k r J = ds_F a k r J' := by
  refine ds_S_congr fun s hs => ?_
  rw [h s hs, ds_D_congr a k (J := ds_E J s) (J' := ds_E J' s) fun t ht => ?_]
  unfold ds_E
  by_cases h1 : t < s
  · rw [if_pos h1, if_pos h1, h t (by omega)]
  · rw [if_neg h1, if_neg h1, h (t + 1) (by omega)]
/-- two rows by turns -/
def ds_H (a : Nat → Nat → Int) (k : Nat) (r q : Nat → Int) (J : Nat → Nat) (s t : Nat) : Int := ds_G (k + 1 + s) * r (J s) * (ds_G (k + t) * q (ds_E J s t) * ds_D a k (ds_E (ds_E J s) t))
theorem ds_H_anti (a : Nat → Nat → Int) (k : Nat) (r q : Nat → Int) (J : Nat → Nat) {i j : Nat} (h : i ≤ j) : ds_H a k r q J i j = - ds_H a k q r J (j + 1) i := by
  unfold ds_H
  rw [ds_E_dE J h]
  have e1 : ds_E J i j = J (j + 1) := by unfold ds_E; rw [if_neg (by omega)]
  have e2 : ds_E J (j + 1) i = J i := by unfold ds_E; rw [if_pos (by omega)]
  rw [e1, e2, show k + 1 + i = (k + i) + 1 by omega, show k + 1 + (j + 1) = (k + j) + 1 + 1 by omega, ds_G_s, ds_G_s, ds_G_s]
  generalize ds_G (k + i) = x
  generalize ds_G (k + j) = y
  generalize r (J i) = u
  generalize q (J (j + 1)) = v
  generalize ds_D a k (ds_E (ds_E J (j + 1)) i) = w
  grind
def ds_GG (a : Nat → Nat → Int) (k : Nat) (r q : Nat → Int) (J : Nat → Nat) : Int := ds_S (fun s => ds_S (fun t => ds_H a k r q J s t) (k + 1)) (k + 2)
theorem ds_GG_eq (a : Nat → Nat → Int) (k : Nat) (r q : Nat → Int) (J : Nat → Nat) : ds_GG a k r q J = ds_S (fun s => ds_G (k + 1 + s) * r (J s) * ds_F a k q (ds_E J s)) (k + 2) := by
  refine ds_S_congr fun s _ => ?_
  show ds_S (fun t => ds_H a k r q J s t) (k + 1) = _
  unfold ds_F
  rw [← ds_S_mul]
  rfl
theorem ds_GG_anti (a : Nat → Nat → Int) (k : Nat) (r q : Nat → Int) (J : Nat → Nat) : ds_GG a k r q J = - ds_GG a k q r J := by
  unfold ds_GG
  rw [ds_S_tri, ds_S_tri, ← ds_S_neg]
  refine ds_S_congr fun j _ => ?_
  show _ = - ds_S _ _
  rw [← ds_S_neg]
  refine ds_S_congr fun i hi => ?_
  have h1 := ds_H_anti a k r q J (i := i) (j := j) (by omega)
  have h2 := ds_H_anti a k q r J (i := i) (j := j) (by omega)
  omega
theorem ds_F_alien (a : Nat → Nat → Int) : ∀ (k i : Nat) (J : Nat → Nat), i < k → ds_F a k (a i) J = 0
  | 0, _, _, h => absurd h (by omega)
  | k + 1, i, J, h => by
    have e : ds_F a (k + 1) (a i) J = ds_GG a k (a i) (a k) J := by rw [ds_GG_eq]; rfl
    rw [e]
    by_cases hk : i = k
    · subst hk
      have := ds_GG_anti a i (a i) (a i) J
      omega
    · rw [ds_GG_anti, ds_GG_eq, ds_S_zero fun s _ => by rw [ds_F_alien a k i _ (by omega), Int.mul_zero]]
      rfl
/-- columns 0 .. k - 1, then j -/
def ds_J (k j : Nat) : Nat → Nat := fun t => if t < k then t else j
def ds_d (a : Nat → Nat → Int) (k : Nat) : Int := ds_D a k (fun t => t)
def ds_C (a : Nat → Nat → Int) (k t j : Nat) : Int := ds_G (k + t + 1) * ds_D a k (ds_E (ds_J k j) t)
def ds_m (a : Nat → Nat → Int) (k i j : Nat) : Int := ds_F a k (a i) (ds_J k j)
theorem ds_m_eq (a : Nat → Nat → Int) (k i j : Nat) : ds_m a k i j = a i j * ds_d a k - ds_S (fun s => a i s * ds_C a k s j) k := by
  show ds_S (fun s => ds_G (k + s) * a i (ds_J k j s) * ds_D a k (ds_E (ds_J k j) s)) k + ds_G (k + k) * a i (ds_J k j k) * ds_D a k (ds_E (ds_J k j) k) = _
  have e1 : ds_J k j k = j := by unfold ds_J; rw [if_neg (by omega)]
  have e2 : ds_D a k (ds_E (ds_J k j) k) = ds_d a k := by
    refine ds_D_congr a k fun t ht => ?_
    unfold ds_E ds_J
    rw [if_pos ht, if_pos ht]
  have e3 : ds_S (fun s => ds_G (k + s) * a i (ds_J k j s) * ds_D a k (ds_E (ds_J k j) s)) k = - ds_S (fun s => a i s * ds_C a k s j) k := by
    rw [← ds_S_neg]
    refine ds_S_congr fun s hs => ?_
    have : ds_J k j s = s := by unfold ds_J; rw [if_pos hs]
    unfold ds_C
    rw [this, ds_G_s]
    generalize ds_G (k + s) = x
    generalize a i s = u
    generalize ds_D a k (ds_E (ds_J k j) s) = v
    grind
  rw [e1, e2, e3, ds_G_2]
  generalize ds_S (fun s => a i s * ds_C a k s j) k = z
  generalize a i j = u
  generalize ds_d a k = v
  grind
/-- Cramer: the numbers ds_C solve the first k rows -/
theorem ds_C_solves (a : Nat → Nat → Int) (k i j : Nat) (h : i < k) : ds_S (fun s => a i s * ds_C a k s j) k = a i j * ds_d a k := by
  have h1 := ds_F_alien a k i (ds_J k j) h
  have h2 := ds_m_eq a k i j
  unfold ds_m at h2
  omega
theorem ds_d_s (a : Nat → Nat → Int) (k : Nat) : ds_d a (k + 1) = ds_m a k k k := by
  unfold ds_d ds_m
  rw [ds_D_s]
  refine ds_F_congr a k _ fun t ht => ?_
  unfold ds_J
  by_cases h : t < k
  · rw [if_pos h]
  · rw [if_neg h]; omega
theorem ds_C_new (a : Nat → Nat → Int) (k j : Nat) : ds_C a (k + 1) k j = ds_m a k k j := by
  unfold ds_C ds_m
  rw [show k + 1 + k + 1 = (k + 1) + (k + 1) by omega, ds_G_2, Int.one_mul, ds_D_s]
  refine ds_F_congr a k _ fun t ht => ?_
  unfold ds_E ds_J
  by_cases h : t < k
  · rw [if_pos h, if_pos (by omega), if_pos h]
  · rw [if_neg h, if_neg (by omega), if_neg h]
/-- the first k columns of the first k rows are one to one, where no pivot is 0 -/
theorem ds_d_inj (a : Nat → Nat → Int) : ∀ (k : Nat) (x : Nat → Int), (∀ i, 1 ≤ i → i ≤ k → ds_d a i ≠ 0) → (∀ i, i < k → ds_S (fun t => a i t * x t) k = 0) → ∀ t, t < k → x t = 0
  | 0, _, _, _, t, ht => absurd ht (by omega)
  | k + 1, x, hd, h, t, ht => by
    have hdk : ds_d a k ≠ 0 := by
      rcases Nat.eq_zero_or_pos k with q | q
      · subst q
        show (1 : Int) ≠ 0
        decide
      · exact hd k q (by omega)
    have key : ∀ t, t < k → ds_d a k * x t + x k * ds_C a k t k = 0 := by
      refine ds_d_inj a k (fun t => ds_d a k * x t + x k * ds_C a k t k) (fun i h1 h2 => hd i h1 (by omega)) fun i hi => ?_
      have e1 : ds_S (fun t => a i t * (ds_d a k * x t + x k * ds_C a k t k)) k = ds_d a k * ds_S (fun t => a i t * x t) k + x k * ds_S (fun t => a i t * ds_C a k t k) k := by
        rw [← ds_S_mul, ← ds_S_mul, ← ds_S_add]
        refine ds_S_congr fun s _ => ?_
        generalize a i s = u
        generalize ds_d a k = v
        generalize x s = w
        generalize x k = y
        generalize ds_C a k s k = z
        grind
      have e2 : ds_S (fun t => a i t * x t) k + a i k * x k = 0 := h i (by omega)
      rw [e1, ds_C_solves a k i k hi]
      generalize ds_S (fun t => a i t * x t) k = u at e2 ⊢
      generalize ds_d a k = v
      generalize a i k = w at e2 ⊢
      generalize x k = y at e2 ⊢
      have : u = - (w * y) := by omega
      subst this
      grind
    have e3 : ds_S (fun t => a k t * x t) k + a k k * x k = 0 := h k (by omega)
    have e4 : ds_d a k * ds_S (fun t => a k t * x t) k = - (x k * ds_S (fun t => a k t * ds_C a k t k) k) := by
      rw [← ds_S_mul, ← ds_S_mul, ← ds_S_neg]
      refine ds_S_congr fun s hs => ?_
      have := key s hs
      generalize a k s = u
      generalize ds_d a k = v at this ⊢
      generalize x s = w at this ⊢
      generalize x k = y at this ⊢
      generalize ds_C a k s k = z at this ⊢
      have h1 : v * w = - (y * z) := by omega
      grind
    have e5 : x k * ds_d a (k + 1) = 0 := by
      rw [ds_d_s, ds_m_eq]
      generalize ds_S (fun s => a k s * ds_C a k s k) k = u at e4 ⊢
      generalize ds_S (fun t => a k t * x t) k = w at e3 e4
      generalize a k k = y at e3 ⊢
      generalize ds_d a k = v at e4 ⊢
      generalize x k = z at e3 e4 ⊢
      have : w = - (y * z) := by omega
      subst this
      grind
    have hk : x k = 0 := by
      rcases Int.mul_eq_zero.mp e5 with q | q
      · exact q
      · exact absurd q (hd (k + 1) (by omega) (by omega))
    by_cases htk : t < k
    · have := key t htk
      rw [hk, Int.zero_mul, Int.add_zero] at this
      rcases Int.mul_eq_zero.mp this with q | q
      · exact absurd q hdk
      · exact q
    · have : t = k := by omega
      rw [this, hk]
/-- Bareiss' step in the rows above the pivot -/
theorem ds_C_step (a : Nat → Nat → Int) (k j t : Nat) (hd : ∀ i, 1 ≤ i → i ≤ k → ds_d a i ≠ 0) (ht : t < k) : ds_d a k * ds_C a (k + 1) t j = ds_d a (k + 1) * ds_C a k t j - ds_C a k t k * ds_m a k k j := by
  have key := ds_d_inj a k (fun t => ds_d a k * ds_C a (k + 1) t j - (ds_d a (k + 1) * ds_C a k t j - ds_C a k t k * ds_m a k k j)) hd (fun i hi => by
    have e1 : ds_S (fun t => a i t * (ds_d a k * ds_C a (k + 1) t j - (ds_d a (k + 1) * ds_C a k t j - ds_C a k t k * ds_m a k k j))) k = ds_d a k * ds_S (fun t => a i t * ds_C a (k + 1) t j) k - (ds_d a (k + 1) * ds_S (fun t => a i t * ds_C a k t j) k - ds_m a k k j * ds_S (fun t => a i t * ds_C a k t k) k) := by
      rw [← ds_S_mul, ← ds_S_mul, ← ds_S_mul, ← ds_S_sub, ← ds_S_sub]
      refine ds_S_congr fun s _ => ?_
      generalize a i s = u
      generalize ds_d a k = v
      generalize ds_C a (k + 1) s j = w
      generalize ds_d a (k + 1) = y
      generalize ds_C a k s j = z
      generalize ds_C a k s k = p
      generalize ds_m a k k j = q
      grind
    have e2 : ds_S (fun s => a i s * ds_C a (k + 1) s j) k + a i k * ds_C a (k + 1) k j = a i j * ds_d a (k + 1) := ds_C_solves a (k + 1) i j (by omega)
    rw [ds_C_new] at e2
    rw [e1, ds_C_solves a k i j hi, ds_C_solves a k i k hi]
    generalize ds_S (fun t => a i t * ds_C a (k + 1) t j) k = u at e2 ⊢
    generalize ds_d a k = v
    generalize ds_d a (k + 1) = y at e2 ⊢
    generalize ds_m a k k j = q at e2 ⊢
    generalize a i k = w at e2 ⊢
    generalize a i j = z at e2 ⊢
    have : u = z * y - w * q := by omega
    subst this
    grind) t ht
  omega
/-- and in those below it -/
theorem ds_m_step (a : Nat → Nat → Int) (k i j : Nat) (hd : ∀ i, 1 ≤ i → i ≤ k → ds_d a i ≠ 0) : ds_d a k * ds_m a (k + 1) i j = ds_d a (k + 1) * ds_m a k i j - ds_m a k i k * ds_m a k k j := by
  rw [ds_m_eq a (k + 1) i j, ds_m_eq a k i j, ds_m_eq a k i k]
  have e0 : ds_S (fun s => a i s * ds_C a (k + 1) s j) (k + 1) = ds_S (fun s => a i s * ds_C a (k + 1) s j) k + a i k * ds_C a (k + 1) k j := rfl
  rw [e0, ds_C_new]
  have e1 : ds_d a k * ds_S (fun s => a i s * ds_C a (k + 1) s j) k = ds_d a (k + 1) * ds_S (fun s => a i s * ds_C a k s j) k - ds_m a k k j * ds_S (fun s => a i s * ds_C a k s k) k := by
    rw [← ds_S_mul, ← ds_S_mul, ← ds_S_mul, ← ds_S_sub]
    refine ds_S_congr fun s hs => ?_
    have := ds_C_step a k j s hd hs
    generalize a i s = u
    generalize ds_d a k = v at this ⊢
    generalize ds_C a (k + 1) s j = w at this ⊢
    generalize ds_d a (k + 1) = y at this ⊢
    generalize ds_C a k s j = z at this ⊢
    generalize ds_C a k s k = p at this ⊢
    generalize ds_m a k k j = q at this ⊢
    grind
  generalize ds_S (fun s => a i s * ds_C a (k + 1) s j) k = u at e1 ⊢
  generalize ds_S (fun s => a i s * ds_C a k s j) k = u2 at e1 ⊢
  generalize ds_S (fun s => a i s * ds_C a k s k) k = u3 at e1 ⊢
  generalize ds_d a k = v at e1 ⊢
  generalize ds_d a (k + 1) = y at e1 ⊢
  generalize ds_m a k k j = q at e1 ⊢
  generalize a i j = z
  generalize a i k = w
  grind
end
section
/-! Matrices whose columns leak: off the diagonal nothing above 0, column sums not below 0, no trap. Every pivot is above 0, and signs stay. -/
theorem ds_inp {d x : Int} (hd : 0 < d) (h : d * x ≤ 0) : x ≤ 0 := by
  rcases (show 0 < x ∨ x ≤ 0 by omega) with q | q
  · have := Int.mul_pos hd q
    omega
  · exact q
theorem ds_inn {d x : Int} (hd : 0 < d) (h : 0 ≤ d * x) : 0 ≤ x := by
  have := ds_inp (d := d) (x := -x) hd (by rw [Int.mul_neg]; omega)
  omega
theorem ds_ip {d x : Int} (hd : 0 < d) (h : 0 < d * x) : 0 < x := by
  rcases (show 0 < x ∨ x ≤ 0 by omega) with q | q
  · exact q
  · have := Int.mul_nonneg (Int.le_of_lt hd) (show 0 ≤ -x by omega)
    rw [Int.mul_neg] at this
    omega
theorem ds_in {d x : Int} (hd : 0 < d) (h : d * x < 0) : x < 0 := by
  have := ds_ip (d := d) (x := -x) hd (by rw [Int.mul_neg]; omega)
  omega
theorem ds_imm {x y : Int} (hx : x ≤ 0) (hy : y ≤ 0) : 0 ≤ x * y := by
  have := Int.mul_nonneg (show 0 ≤ -x by omega) (show 0 ≤ -y by omega)
  rw [Int.neg_mul_neg] at this
  exact this
theorem ds_imp {x y : Int} (hx : x ≤ 0) (hy : 0 ≤ y) : x * y ≤ 0 := by
  have := Int.mul_nonneg (show 0 ≤ -x by omega) hy
  rw [Int.neg_mul] at this
  omega
theorem ds_imms {x y : Int} (hx : x < 0) (hy : y < 0) : 0 < x * y := by
  have := Int.mul_pos (show 0 < -x by omega) (show 0 < -y by omega)
  rw [Int.neg_mul_neg] at this
  exact this
theorem ds_imps {x y : Int} (hx : x < 0) (hy : 0 < y) : x * y < 0 := by
  have := Int.mul_pos (show 0 < -x by omega) hy
  rw [Int.neg_mul] at this
  omega
theorem ds_S_np {f : Nat → Int} : ∀ {n : Nat}, (∀ i, i < n → f i ≤ 0) → ds_S f n ≤ 0
  | 0, _ => Int.le_refl 0
  | n + 1, h => by
    have h1 := ds_S_np (f := f) (n := n) (fun i hi => h i (by omega))
    have h2 := h n (by omega)
    show ds_S f n + f n ≤ 0
    omega
theorem ds_S_nn {f : Nat → Int} {n : Nat} (h : ∀ i, i < n → 0 ≤ f i) : 0 ≤ ds_S f n := by
  have := ds_S_np (f := fun i => - f i) (n := n) (fun i hi => by have := h i hi; omega)
  rw [ds_S_neg] at this
  omega
theorem ds_S_split (f : Nat → Int) (k : Nat) : ∀ {n : Nat}, k < n → ds_S f n = f k + ds_S (fun i => if i = k then 0 else f i) n
  | 0, h => absurd h (by omega)
  | n + 1, h => by
    show ds_S f n + f n = f k + (ds_S (fun i => if i = k then 0 else f i) n + (if n = k then 0 else f n))
    by_cases hk : n = k
    · subst hk
      rw [if_pos rfl, ds_S_congr (f := fun i => if i = n then 0 else f i) (g := f) (fun i hi => if_neg (by omega))]
      omega
    · rw [if_neg hk, ds_S_split f k (n := n) (by omega)]
      omega
theorem ds_S_le1 {f : Nat → Int} {n k : Nat} (hk : k < n) (h : ∀ i, i < n → i ≠ k → f i ≤ 0) : ds_S f n ≤ f k := by
  rw [ds_S_split f k hk]
  have := ds_S_np (f := fun i => if i = k then 0 else f i) (n := n) (fun i hi => by
    by_cases q : i = k
    · rw [if_pos q]; exact Int.le_refl 0
    · rw [if_neg q]; exact h i hi q)
  omega
theorem ds_S_le2 {f : Nat → Int} {n k j : Nat} (hk : k < n) (hj : j < n) (hjk : j ≠ k) (h : ∀ i, i < n → i ≠ k → f i ≤ 0) : ds_S f n ≤ f k + f j := by
  rw [ds_S_split f k hk]
  have := ds_S_le1 (f := fun i => if i = k then 0 else f i) (n := n) (k := j) hj (fun i hi _ => by
    show (if i = k then 0 else f i) ≤ 0
    by_cases q : i = k
    · rw [if_pos q]; exact Int.le_refl 0
    · rw [if_neg q]; exact h i hi q)
  rw [if_neg hjk] at this
  omega
def mx_Lk (a : Nat → Nat → Int) (n k j : Nat) : Int := ds_S (fun i => ds_m a k i j) n
theorem ds_m_low (a : Nat → Nat → Int) (k i j : Nat) (h : i < k) : ds_m a k i j = 0 := ds_F_alien a k i (ds_J k j) h
theorem mx_Lk_step (a : Nat → Nat → Int) (n k j : Nat) (hd : ∀ i, 1 ≤ i → i ≤ k → ds_d a i ≠ 0) : ds_d a k * mx_Lk a n (k + 1) j = ds_d a (k + 1) * mx_Lk a n k j - mx_Lk a n k k * ds_m a k k j := by
  unfold mx_Lk
  rw [← ds_S_mul, ← ds_S_mul, Int.mul_comm (ds_S (fun i => ds_m a k i k) n) (ds_m a k k j), ← ds_S_mul, ← ds_S_sub]
  refine ds_S_congr fun i _ => ?_
  rw [ds_m_step a k i j hd, Int.mul_comm (ds_m a k k j)]
/-- what holds before the pivot k -/
def mx_Inv (a : Nat → Nat → Int) (n k : Nat) : Prop :=
  (∀ i, i ≤ k → 0 < ds_d a i) ∧ (∀ i j, k ≤ i → i < n → k ≤ j → j < n → i ≠ j → ds_m a k i j ≤ 0) ∧ (∀ j, k ≤ j → j < n → 0 ≤ mx_Lk a n k j) ∧
  (∀ S : Nat → Prop, (∃ j, k ≤ j ∧ j < n ∧ S j) → ∃ j, k ≤ j ∧ j < n ∧ S j ∧ (0 < mx_Lk a n k j ∨ ∃ i, k ≤ i ∧ i < n ∧ ¬ S i ∧ ds_m a k i j < 0))
def mx_Good (a : Nat → Nat → Int) (n : Nat) : Prop :=
  (∀ i j, i < n → j < n → i ≠ j → a i j ≤ 0) ∧ (∀ j, j < n → 0 ≤ ds_S (fun i => a i j) n) ∧
  (∀ S : Nat → Prop, (∃ j, j < n ∧ S j) → ∃ j, j < n ∧ S j ∧ (0 < ds_S (fun i => a i j) n ∨ ∃ i, i < n ∧ ¬ S i ∧ a i j < 0))
theorem ds_m_0 (a : Nat → Nat → Int) (i j : Nat) : ds_m a 0 i j = a i j := by
  rw [ds_m_eq]
  show a i j * 1 - 0 = a i j
  omega
theorem mx_Lk_0 (a : Nat → Nat → Int) (n j : Nat) : mx_Lk a n 0 j = ds_S (fun i => a i j) n := ds_S_congr fun i _ => ds_m_0 a i j
theorem mx_Inv_0 {a : Nat → Nat → Int} {n : Nat} (h : mx_Good a n) : mx_Inv a n 0 := by
  obtain ⟨h1, h2, h3⟩ := h
  refine ⟨fun i hi => ?_, fun i j _ hi _ hj hne => ?_, fun j _ hj => ?_, fun S hS => ?_⟩
  · rw [show i = 0 by omega]
    show (0 : Int) < 1
    decide
  · rw [ds_m_0]; exact h1 i j hi hj hne
  · rw [mx_Lk_0]; exact h2 j hj
  · obtain ⟨j, -, hj, hs⟩ := hS
    obtain ⟨j, hj, hs, q⟩ := h3 S ⟨j, hj, hs⟩
    refine ⟨j, by omega, hj, hs, ?_⟩
    rw [mx_Lk_0]
    rcases q with q | ⟨i, hi, hn, q⟩
    · exact Or.inl q
    · exact Or.inr ⟨i, by omega, hi, hn, by rw [ds_m_0]; exact q⟩
theorem mx_Inv_pivot {a : Nat → Nat → Int} {n k : Nat} (h : mx_Inv a n k) (hk : k < n) : 0 < ds_d a (k + 1) := by
  obtain ⟨h1, h2, h3, h4⟩ := h
  rw [ds_d_s]
  have hoff : ∀ i, i < n → i ≠ k → ds_m a k i k ≤ 0 := fun i hi hne => by
    rcases Nat.lt_or_ge i k with q | q
    · rw [ds_m_low a k i k q]; exact Int.le_refl 0
    · exact h2 i k q hi (Nat.le_refl k) hk hne
  obtain ⟨j, hj1, hj2, hj3, q⟩ := h4 (fun x => x = k) ⟨k, Nat.le_refl k, hk, rfl⟩
  subst hj3
  rcases q with q | ⟨i, hi1, hi2, hi3, q⟩
  · have := ds_S_le1 (f := fun i => ds_m a j i j) hk hoff
    unfold mx_Lk at q
    omega
  · have := ds_S_le2 (f := fun i => ds_m a j i j) hk hi2 (fun e => hi3 e) hoff
    have h5 := h3 j hj1 hj2
    unfold mx_Lk at h5
    omega
theorem mx_Inv_ne {a : Nat → Nat → Int} {n k : Nat} (h : mx_Inv a n k) : ∀ i, 1 ≤ i → i ≤ k → ds_d a i ≠ 0 := fun i _ h2 => by
  have := h.1 i h2
  omega
theorem mx_Inv_s {a : Nat → Nat → Int} {n k : Nat} (h : mx_Inv a n k) (hk : k < n) : mx_Inv a n (k + 1) := by
  have hp := mx_Inv_pivot h hk
  have hne := mx_Inv_ne h
  obtain ⟨h1, h2, h3, h4⟩ := h
  have hdk := h1 k (Nat.le_refl k)
  have hlk := h3 k (Nat.le_refl k) hk
  have hmkk : ds_m a k k k = ds_d a (k + 1) := (ds_d_s a k).symm
  have hc : ∀ j, k ≤ j → j < n → k ≠ j → ds_m a k k j ≤ 0 := fun j q1 q2 q3 => h2 k j (Nat.le_refl k) hk q1 q2 q3
  have hr : ∀ i, k ≤ i → i < n → i ≠ k → ds_m a k i k ≤ 0 := fun i q1 q2 q3 => h2 i k q1 q2 (Nat.le_refl k) hk q3
  -- a link that was there is there still; a link through k becomes one
  have keep : ∀ i j, k + 1 ≤ i → i < n → k + 1 ≤ j → j < n → i ≠ j → ds_m a k i j < 0 → ds_m a (k + 1) i j < 0 := fun i j a1 a2 a3 a4 a5 q => by
    refine ds_in hdk ?_
    rw [ds_m_step a k i j hne]
    have e1 := ds_imps q hp
    have e2 := ds_imm (hr i (by omega) a2 (by omega)) (hc j (by omega) a4 (by omega))
    rw [Int.mul_comm] at e1
    omega
  have thru : ∀ i j, k + 1 ≤ i → i < n → k + 1 ≤ j → j < n → i ≠ j → ds_m a k i k < 0 → ds_m a k k j < 0 → ds_m a (k + 1) i j < 0 := fun i j a1 a2 a3 a4 a5 q1 q2 => by
    refine ds_in hdk ?_
    rw [ds_m_step a k i j hne]
    have e1 := ds_imms q1 q2
    have e2 := ds_imp (h2 i j (by omega) a2 (by omega) a4 a5) (Int.le_of_lt hp)
    rw [Int.mul_comm] at e2
    omega
  have leak : ∀ j, k + 1 ≤ j → j < n → 0 < mx_Lk a n k j → 0 < mx_Lk a n (k + 1) j := fun j a3 a4 q => by
    refine ds_ip hdk ?_
    rw [mx_Lk_step a n k j hne]
    have e1 := Int.mul_pos hp q
    have e2 := ds_imp (hc j (by omega) a4 (by omega)) hlk
    rw [Int.mul_comm] at e2
    omega
  have leakt : ∀ j, k + 1 ≤ j → j < n → 0 < mx_Lk a n k k → ds_m a k k j < 0 → 0 < mx_Lk a n (k + 1) j := fun j a3 a4 q1 q2 => by
    refine ds_ip hdk ?_
    rw [mx_Lk_step a n k j hne]
    have e1 := ds_imps q2 q1
    have e2 := Int.mul_nonneg (Int.le_of_lt hp) (h3 j (by omega) a4)
    rw [Int.mul_comm] at e1
    omega
  refine ⟨fun i hi => ?_, fun i j a1 a2 a3 a4 a5 => ?_, fun j a1 a2 => ?_, fun S hS => ?_⟩
  · rcases Nat.lt_or_ge k i with q | q
    · rw [show i = k + 1 by omega]; exact hp
    · exact h1 i q
  · refine ds_inp hdk ?_
    rw [ds_m_step a k i j hne]
    have e1 := ds_imm (hr i (by omega) a2 (by omega)) (hc j (by omega) a4 (by omega))
    have e2 := ds_imp (h2 i j (by omega) a2 (by omega) a4 a5) (Int.le_of_lt hp)
    rw [Int.mul_comm] at e2
    omega
  · refine ds_inn hdk ?_
    rw [mx_Lk_step a n k j hne]
    have e1 := Int.mul_nonneg (Int.le_of_lt hp) (h3 j (by omega) a2)
    have e2 := ds_imp (hc j (by omega) a2 (by omega)) hlk
    rw [Int.mul_comm] at e2
    omega
  · -- the set without k
    obtain ⟨j0, b1, b2, b3⟩ := hS
    obtain ⟨j, c1, c2, c3, q⟩ := h4 (fun x => S x ∧ k + 1 ≤ x) ⟨j0, by omega, b2, b3, b1⟩
    rcases q with q | ⟨i, i1, i2, i3, q⟩
    · exact ⟨j, c3.2, c2, c3.1, Or.inl (leak j c3.2 c2 q)⟩
    · by_cases hik : i = k
      · subst hik
        -- j goes to k: see where S and k together get out
        obtain ⟨j', d1, d2, d3, q'⟩ := h4 (fun x => (S x ∧ i + 1 ≤ x) ∨ x = i) ⟨i, Nat.le_refl i, hk, Or.inr rfl⟩
        rcases d3 with d3 | d3
        · rcases q' with q' | ⟨i', e1, e2, e3, q'⟩
          · exact ⟨j', d3.2, d2, d3.1, Or.inl (leak j' d3.2 d2 q')⟩
          · have hne' : i' ≠ i := fun e => e3 (Or.inr e)
            have hns : ¬ S i' := fun e => e3 (Or.inl ⟨e, by omega⟩)
            exact ⟨j', d3.2, d2, d3.1, Or.inr ⟨i', by omega, e2, hns, keep i' j' (by omega) e2 d3.2 d2 (fun e => hns (e ▸ d3.1)) q'⟩⟩
        · subst d3
          rcases q' with q' | ⟨i', e1, e2, e3, q'⟩
          · exact ⟨j, c3.2, c2, c3.1, Or.inl (leakt j c3.2 c2 q' q)⟩
          · have hne' : i' ≠ j' := fun e => e3 (Or.inr e)
            have hns : ¬ S i' := fun e => e3 (Or.inl ⟨e, by omega⟩)
            exact ⟨j, c3.2, c2, c3.1, Or.inr ⟨i', by omega, e2, hns, thru i' j (by omega) e2 c3.2 c2 (fun e => hns (e ▸ c3.1)) q' q⟩⟩
      · have hns : ¬ S i := fun e => i3 ⟨e, by omega⟩
        exact ⟨j, c3.2, c2, c3.1, Or.inr ⟨i, by omega, i2, hns, keep i j (by omega) i2 c3.2 c2 (fun e => hns (e ▸ c3.1)) q⟩⟩
theorem mx_Inv_all {a : Nat → Nat → Int} {n : Nat} (h : mx_Good a n) : ∀ k, k ≤ n → mx_Inv a n k
  | 0, _ => mx_Inv_0 h
  | k + 1, hk => mx_Inv_s (mx_Inv_all h k (by omega)) (by omega)
/-- the rows above the pivot: columns of the matrix -/
theorem mx_C_np {a : Nat → Nat → Int} {n : Nat} (h : mx_Good a n) : ∀ k, k ≤ n → ∀ t j, t < k → k ≤ j → j < n → ds_C a k t j ≤ 0
  | 0, _, t, _, ht, _, _ => absurd ht (by omega)
  | k + 1, hk, t, j, ht, hj, hn => by
    have hI := mx_Inv_all h k (by omega)
    have hp := mx_Inv_pivot hI (by omega)
    rcases Nat.lt_or_ge t k with q | q
    · refine ds_inp (hI.1 k (Nat.le_refl k)) ?_
      rw [ds_C_step a k j t (mx_Inv_ne hI) q]
      have e1 := ds_imm (mx_C_np h k (by omega) t k q (Nat.le_refl k) (by omega)) (hI.2.1 k j (Nat.le_refl k) (by omega) (by omega) hn (by omega))
      have e2 := ds_imp (mx_C_np h k (by omega) t j q (by omega) hn) (Int.le_of_lt hp)
      rw [Int.mul_comm] at e2
      omega
    · rw [show t = k by omega, ds_C_new]
      exact hI.2.1 k j (Nat.le_refl k) (by omega) (by omega) hn (by omega)
/-- a right side of numbers not below 0 -/
theorem mx_Rhs {a : Nat → Nat → Int} {n j : Nat} (h : mx_Good a n) (hj : ∀ i, i < n → 0 ≤ a i j) : ∀ k, k ≤ n → (∀ i, i < n → 0 ≤ ds_m a k i j) ∧ ∀ t, t < k → 0 ≤ ds_C a k t j
  | 0, _ => ⟨fun i hi => by rw [ds_m_0]; exact hj i hi, fun t ht => absurd ht (by omega)⟩
  | k + 1, hk => by
    have hI := mx_Inv_all h k (by omega)
    have hp := mx_Inv_pivot hI (by omega)
    obtain ⟨m1, c1⟩ := mx_Rhs h hj k (by omega)
    refine ⟨fun i hi => ?_, fun t ht => ?_⟩
    · rcases Nat.lt_or_ge i (k + 1) with q | q
      · rw [ds_m_low a (k + 1) i j q]; exact Int.le_refl 0
      · refine ds_inn (hI.1 k (Nat.le_refl k)) ?_
        rw [ds_m_step a k i j (mx_Inv_ne hI)]
        have e1 := Int.mul_nonneg (Int.le_of_lt hp) (m1 i hi)
        have e2 := ds_imp (hI.2.1 i k (by omega) hi (Nat.le_refl k) (by omega) (by omega)) (m1 k (by omega))
        omega
    · rcases Nat.lt_or_ge t k with q | q
      · refine ds_inn (hI.1 k (Nat.le_refl k)) ?_
        rw [ds_C_step a k j t (mx_Inv_ne hI) q]
        have e1 := Int.mul_nonneg (Int.le_of_lt hp) (c1 t q)
        have e2 := ds_imp (mx_C_np h k (by omega) t k q (Nat.le_refl k) (by omega)) (m1 k (by omega))
        omega
      · rw [show t = k by omega, ds_C_new]
        exact m1 k (by omega)
/-- the size of a determinant: at most the product of the columns' sums -/
def ds_nS (f : Nat → Nat) : Nat → Nat
  | 0 => 0
  | n + 1 => ds_nS f n + f n
def ds_nP (f : Nat → Nat) : Nat → Nat
  | 0 => 1
  | n + 1 => ds_nP f n * f n
theorem ds_nP_congr {f g : Nat → Nat} : ∀ {n : Nat}, (∀ i, i < n → f i = g i) → ds_nP f n = ds_nP g n
  | 0, _ => rfl
  | n + 1, h => by
    show ds_nP f n * f n = ds_nP g n * g n
    rw [ds_nP_congr (fun i hi => h i (by omega)), h n (by omega)]
theorem ds_nS_congr {f g : Nat → Nat} : ∀ {n : Nat}, (∀ i, i < n → f i = g i) → ds_nS f n = ds_nS g n
  | 0, _ => rfl
  | n + 1, h => by
    show ds_nS f n + f n = ds_nS g n + g n
    rw [ds_nS_congr (fun i hi => h i (by omega)), h n (by omega)]
theorem ds_nP_mono {f g : Nat → Nat} : ∀ {n : Nat}, (∀ i, i < n → f i ≤ g i) → ds_nP f n ≤ ds_nP g n
  | 0, _ => Nat.le_refl 1
  | n + 1, h => Nat.mul_le_mul (ds_nP_mono (fun i hi => h i (by omega))) (h n (by omega))
theorem ds_nS_mono {f g : Nat → Nat} : ∀ {n : Nat}, (∀ i, i < n → f i ≤ g i) → ds_nS f n ≤ ds_nS g n
  | 0, _ => Nat.le_refl 0
  | n + 1, h => Nat.add_le_add (ds_nS_mono (fun i hi => h i (by omega))) (h n (by omega))
theorem ds_nS_mul (c : Nat) (f : Nat → Nat) : ∀ n : Nat, ds_nS (fun i => f i * c) n = ds_nS f n * c
  | 0 => by simp [ds_nS]
  | n + 1 => by
    show ds_nS (fun i => f i * c) n + f n * c = (ds_nS f n + f n) * c
    rw [ds_nS_mul c f n, Nat.add_mul]
theorem ds_S_abs (f : Nat → Int) : ∀ n : Nat, (ds_S f n).natAbs ≤ ds_nS (fun i => (f i).natAbs) n
  | 0 => Nat.le_refl 0
  | n + 1 => by
    have h1 := ds_S_abs f n
    have h2 := Int.natAbs_add_le (ds_S f n) (f n)
    show (ds_S f n + f n).natAbs ≤ ds_nS (fun i => (f i).natAbs) n + (f n).natAbs
    omega
theorem ds_nP_erase (x y : Nat → Nat) : ∀ n : Nat, ds_nS (fun s => y s * ds_nP (fun t => x (ds_E (fun u => u) s t)) n) (n + 1) ≤ ds_nP (fun t => x t + y t) (n + 1)
  | 0 => by
    show 0 + y 0 * 1 ≤ 1 * (x 0 + y 0)
    omega
  | n + 1 => by
    have ih := ds_nP_erase x y n
    have e1 : ds_nS (fun s => y s * ds_nP (fun t => x (ds_E (fun u => u) s t)) (n + 1)) (n + 1) = ds_nS (fun s => y s * ds_nP (fun t => x (ds_E (fun u => u) s t)) n) (n + 1) * x (n + 1) := by
      rw [← ds_nS_mul]
      refine ds_nS_congr fun s hs => ?_
      show y s * (ds_nP (fun t => x (ds_E (fun u => u) s t)) n * x (ds_E (fun u => u) s n)) = _
      have : ds_E (fun u => u) s n = n + 1 := by unfold ds_E; rw [if_neg (by omega)]
      rw [this, Nat.mul_assoc]
    have e2 : ds_nP (fun t => x (ds_E (fun u => u) (n + 1) t)) (n + 1) = ds_nP x (n + 1) := ds_nP_congr fun t ht => by
      unfold ds_E
      rw [if_pos (by omega)]
    have e3 : ds_nP x (n + 1) ≤ ds_nP (fun t => x t + y t) (n + 1) := ds_nP_mono fun t _ => by omega
    show ds_nS (fun s => y s * ds_nP (fun t => x (ds_E (fun u => u) s t)) (n + 1)) (n + 1) + y (n + 1) * ds_nP (fun t => x (ds_E (fun u => u) (n + 1) t)) (n + 1) ≤ ds_nP (fun t => x t + y t) (n + 1) * (x (n + 1) + y (n + 1))
    rw [e1, e2, Nat.mul_add]
    refine Nat.add_le_add (Nat.mul_le_mul_right _ ih) ?_
    rw [Nat.mul_comm]
    exact Nat.mul_le_mul_right _ e3
theorem ds_D_le (a : Nat → Nat → Int) : ∀ (k : Nat) (J : Nat → Nat), (ds_D a k J).natAbs ≤ ds_nP (fun t => ds_nS (fun i => (a i (J t)).natAbs) k) k
  | 0, _ => Nat.le_refl 1
  | k + 1, J => by
    refine Nat.le_trans (ds_S_abs _ (k + 1)) ?_
    refine Nat.le_trans ?_ (ds_nP_erase (fun t => ds_nS (fun i => (a i (J t)).natAbs) k) (fun t => (a k (J t)).natAbs) k)
    refine ds_nS_mono fun s hs => ?_
    rw [Int.natAbs_mul, Int.natAbs_mul]
    have e1 : (ds_G (k + s)).natAbs = 1 := by
      unfold ds_G
      by_cases q : (k + s) % 2 = 0
      · rw [if_pos q]; rfl
      · rw [if_neg q]; rfl
    rw [e1, Nat.one_mul]
    refine Nat.mul_le_mul_left _ ?_
    refine Nat.le_trans (ds_D_le a k (ds_E J s)) (Nat.le_of_eq (ds_nP_congr fun t ht => ?_))
    show ds_nS (fun i => (a i (ds_E J s t)).natAbs) k = ds_nS (fun i => (a i (J (ds_E (fun u => u) s t))).natAbs) k
    unfold ds_E
    by_cases q : t < s
    · rw [if_pos q, if_pos q]
    · rw [if_neg q, if_neg q]
end
section
/-! Whole numbers by limbs of 30 bits. -/
abbrev wB : Nat := 1073741824
def wv (h : Nat → Nat) : Nat → Nat
  | 0 => 0
  | n + 1 => wv h n + h n * wB ^ n
def wl (X i : Nat) : Nat := X / wB ^ i % wB
theorem wB_pos (n : Nat) : 0 < wB ^ n := Nat.pow_pos (by decide)
theorem wl_lt (X i : Nat) : wl X i < wB := Nat.mod_lt _ (by decide)
theorem wv_congr {h g : Nat → Nat} : ∀ {n : Nat}, (∀ i, i < n → h i = g i) → wv h n = wv g n
  | 0, _ => rfl
  | n + 1, q => by
    show wv h n + h n * wB ^ n = wv g n + g n * wB ^ n
    rw [wv_congr (fun i hi => q i (by omega)), q n (by omega)]
theorem wv_lt {h : Nat → Nat} : ∀ {n : Nat}, (∀ i, i < n → h i < wB) → wv h n < wB ^ n
  | 0, _ => Nat.one_pos
  | n + 1, q => by
    have h1 := wv_lt (h := h) (n := n) (fun i hi => q i (by omega))
    have h2 : (h n + 1) * wB ^ n ≤ wB * wB ^ n := Nat.mul_le_mul_right _ (q n (by omega))
    rw [Nat.add_mul, Nat.one_mul] at h2
    show wv h n + h n * wB ^ n < wB ^ n * wB
    rw [Nat.mul_comm (wB ^ n) wB]
    omega
theorem wv_wl (X : Nat) : ∀ n : Nat, wv (wl X) n = X % wB ^ n
  | 0 => by
    show 0 = X % 1
    omega
  | n + 1 => by
    show wv (wl X) n + wl X n * wB ^ n = _
    rw [wv_wl X n, Nat.mod_pow_succ, Nat.mul_comm]
    rfl
theorem wv_wl' {X n : Nat} (h : X < wB ^ n) : wv (wl X) n = X := by rw [wv_wl, Nat.mod_eq_of_lt h]
theorem wl_wv {h : Nat → Nat} : ∀ {n : Nat}, (∀ i, i < n → h i < wB) → ∀ i, i < n → wl (wv h n) i = h i
  | 0, _, i, hi => absurd hi (by omega)
  | n + 1, q, i, hi => by
    have h1 := wv_lt (h := h) (n := n) (fun j hj => q j (by omega))
    show (wv h n + h n * wB ^ n) / wB ^ i % wB = h i
    by_cases hin : i = n
    · subst hin
      rw [Nat.add_mul_div_right _ _ (wB_pos i), Nat.div_eq_of_lt h1, Nat.zero_add, Nat.mod_eq_of_lt (q i (by omega))]
    · have e : h n * wB ^ n = (h n * wB ^ (n - i - 1) * wB) * wB ^ i := by
        rw [Nat.mul_assoc, Nat.mul_assoc, ← Nat.pow_succ', ← Nat.pow_add]
        congr 2
        omega
      rw [e, Nat.add_mul_div_right _ _ (wB_pos i), Nat.add_mul_mod_self_right]
      exact wl_wv (h := h) (n := n) (fun j hj => q j (by omega)) i (by omega)
theorem wl_zero {X i n : Nat} (h : X < wB ^ n) (hi : n ≤ i) : wl X i = 0 := by
  have : X < wB ^ i := Nat.lt_of_lt_of_le h (Nat.pow_le_pow_right (by decide) hi)
  unfold wl
  rw [Nat.div_eq_of_lt this]
  rfl
theorem wl_top {X n : Nat} (h : X < wB ^ (n + 1)) : wl X n = X / wB ^ n := by
  unfold wl
  refine Nat.mod_eq_of_lt ?_
  refine Nat.div_lt_of_lt_mul ?_
  rw [← Nat.pow_succ]
  exact h
/-- how many limbs are used -/
def wuA (X : Nat) : Nat → Nat
  | 0 => 0
  | n + 1 => if wB ^ n ≤ X then n + 1 else wuA X n
def wu (X : Nat) : Nat := wuA X 13
theorem wuA_le (X : Nat) : ∀ n, wuA X n ≤ n
  | 0 => Nat.le_refl 0
  | n + 1 => by
    unfold wuA
    by_cases h : wB ^ n ≤ X
    · rw [if_pos h]; exact Nat.le_refl _
    · rw [if_neg h]; exact Nat.le_succ_of_le (wuA_le X n)
theorem wuA_spec (X : Nat) : ∀ n, X < wB ^ n → X < wB ^ (wuA X n) ∧ ∀ v, v < wuA X n → wB ^ v ≤ X
  | 0, h => ⟨h, fun v hv => absurd hv (by unfold wuA; omega)⟩
  | n + 1, h => by
    unfold wuA
    by_cases q : wB ^ n ≤ X
    · rw [if_pos q]
      exact ⟨h, fun v hv => Nat.le_trans (Nat.pow_le_pow_right (by decide) (by omega)) q⟩
    · rw [if_neg q]
      exact wuA_spec X n (by omega)
theorem wu_le (X : Nat) : wu X ≤ 13 := wuA_le X 13
theorem wu_lt {X : Nat} (h : X < wB ^ 13) : X < wB ^ (wu X) := (wuA_spec X 13 h).1
theorem wu_ge {X : Nat} (h : X < wB ^ 13) {v : Nat} (hv : v < wu X) : wB ^ v ≤ X := (wuA_spec X 13 h).2 v hv
theorem wuA_eq {X : Nat} : ∀ (n k : Nat), k ≤ n → X < wB ^ k → wuA X n = wuA X k
  | 0, k, hk, _ => by rw [show k = 0 by omega]
  | n + 1, k, hk, h => by
    by_cases e : k = n + 1
    · rw [e]
    · have h2 : wuA X (n + 1) = wuA X n := by
        show (if wB ^ n ≤ X then n + 1 else wuA X n) = wuA X n
        rw [if_neg]
        have : wB ^ k ≤ wB ^ n := Nat.pow_le_pow_right (by decide) (by omega)
        omega
      rw [h2, wuA_eq n k (by omega) h]
theorem wu_zero {X : Nat} (h : X < wB ^ 13) : wu X = 0 ↔ X = 0 := by
  constructor
  · intro e
    have := wu_lt h
    rw [e] at this
    simp at this
    exact this
  · intro e
    subst e
    decide
end
