/-! Matrices whose columns leak: off the diagonal nothing above 0, column sums not below 0, no trap. Every pivot is above 0, and signs stay. -/
theorem ds_inp {d x : Int} (hd : 0 < d) (h : d * x ≤ 0) : x ≤ 0 := by
  rcases (show 0 < x ∨ x ≤ 0 by omega) with q | q
  · have := Int.mul_pos hd q
    omega
  · exact q
theorem ds_inn {d x : Int} (hd : 0 < d) (h : 0 ≤ d * x) : 0 ≤ x := by
  have := ds_inp (d := d) (x := -x) hd (by rw [Int.mul_neg]; omega)
  omega
theorem ds_ip {d x : Int} (hd : 0 < d) (h : 0 < d * x) : 0 < x := by
  rcases (show 0 < x ∨ x ≤ 0 by omega) with q | q
  · exact q
  · have := Int.mul_nonneg (Int.le_of_lt hd) (show 0 ≤ -x by omega)
    rw [Int.mul_neg] at this
    omega
theorem ds_in {d x : Int} (hd : 0 < d) (h : d * x < 0) : x < 0 := by
  have := ds_ip (d := d) (x := -x) hd (by rw [Int.mul_neg]; omega)
  omega
theorem ds_imm {x y : Int} (hx : x ≤ 0) (hy : y ≤ 0) : 0 ≤ x * y := by
  have := Int.mul_nonneg (show 0 ≤ -x by omega) (show 0 ≤ -y by omega)
  rw [Int.neg_mul_neg] at this
  exact this
theorem ds_imp {x y : Int} (hx : x ≤ 0) (hy : 0 ≤ y) : x * y ≤ 0 := by
  have := Int.mul_nonneg (show 0 ≤ -x by omega) hy
  rw [Int.neg_mul] at this
  omega
theorem ds_imms {x y : Int} (hx : x < 0) (hy : y < 0) : 0 < x * y := by
  have := Int.mul_pos (show 0 < -x by omega) (show 0 < -y by omega)
  rw [Int.neg_mul_neg] at this
  exact this
theorem ds_imps {x y : Int} (hx : x < 0) (hy : 0 < y) : x * y < 0 := by
  have := Int.mul_pos (show 0 < -x by omega) hy
  rw [Int.neg_mul] at this
  omega
theorem ds_S_np {f : Nat → Int} : ∀ {n : Nat}, (∀ i, i < n → f i ≤ 0) → ds_S f n ≤ 0
  | 0, _ => Int.le_refl 0
  | n + 1, h => by
    have h1 := ds_S_np (f := f) (n := n) (fun i hi => h i (by omega))
    have h2 := h n (by omega)
    show ds_S f n + f n ≤ 0
    omega
theorem ds_S_nn {f : Nat → Int} {n : Nat} (h : ∀ i, i < n → 0 ≤ f i) : 0 ≤ ds_S f n := by
  have := ds_S_np (f := fun i => - f i) (n := n) (fun i hi => by have := h i hi; omega)
  rw [ds_S_neg] at this
  omega
theorem ds_S_split (f : Nat → Int) (k : Nat) : ∀ {n : Nat}, k < n → ds_S f n = f k + ds_S (fun i => if i = k then 0 else f i) n
  | 0, h => absurd h (by omega)
  | n + 1, h => by
    show ds_S f n + f n = f k + (ds_S (fun i => if i = k then 0 else f i) n + (if n = k then 0 else f n))
    by_cases hk : n = k
    · subst hk
      rw [if_pos rfl, ds_S_congr (f := fun i => if i = n then 0 else f i) (g := f) (fun i hi => if_neg (by omega))]
      omega
    · rw [if_neg hk, ds_S_split f k (n := n) (by omega)]
      omega
theorem ds_S_le1 {f : Nat → Int} {n k : Nat} (hk : k < n) (h : ∀ i, i < n → i ≠ k → f i ≤ 0) : ds_S f n ≤ f k := by
  rw [ds_S_split f k hk]
  have := ds_S_np (f := fun i => if i = k then 0 else f i) (n := n) (fun i hi => by
    by_cases q : i = k
    · rw [if_pos q]; exact Int.le_refl 0
    · rw [if_neg q]; exact h i hi q)
  omega
theorem ds_S_le2 {f : Nat → Int} {n k j : Nat} (hk : k < n) (hj : j < n) (hjk : j ≠ k) (h : ∀ i, i < n → i ≠ k → f i ≤ 0) : ds_S f n ≤ f k + f j := by
  rw [ds_S_split f k hk]
  have := ds_S_le1 (f := fun i => if i = k then 0 else f i) (n := n) (k := j) hj (fun i hi _ => by
    show (if i = k then 0 else f i) ≤ 0
    by_cases q : i = k
    · rw [if_pos q]; exact Int.le_refl 0
    · rw [if_neg q]; exact h i hi q)
  rw [if_neg hjk] at this
  omega
def mx_Lk (a : Nat → Nat → Int) (n k j : Nat) : Int := ds_S (fun i => ds_m a k i j) n
theorem ds_m_low (a : Nat → Nat → Int) (k i j : Nat) (h : i < k) : ds_m a k i j = 0 := ds_F_alien a k i (ds_J k j) h
theorem mx_Lk_step (a : Nat → Nat → Int) (n k j : Nat) (hd : ∀ i, 1 ≤ i → i ≤ k → ds_d a i ≠ 0) : ds_d a k * mx_Lk a n (k + 1) j = ds_d a (k + 1) * mx_Lk a n k j - mx_Lk a n k k * ds_m a k k j := by
  unfold mx_Lk
  rw [← ds_S_mul, ← ds_S_mul, Int.mul_comm (ds_S (fun i => ds_m a k i k) n) (ds_m a k k j), ← ds_S_mul, ← ds_S_sub]
  refine ds_S_congr fun i _ => ?_
  rw [ds_m_step a k i j hd, Int.mul_comm (ds_m a k k j)]
/-- what holds before the pivot k -/
def mx_Inv (a : Nat → Nat → Int) (n k : Nat) : Prop :=
  (∀ i, i ≤ k → 0 < ds_d a i) ∧ (∀ i j, k ≤ i → i < n → k ≤ j → j < n → i ≠ j → ds_m a k i j ≤ 0) ∧ (∀ j, k ≤ j → j < n → 0 ≤ mx_Lk a n k j) ∧
  (∀ S : Nat → Prop, (∃ j, k ≤ j ∧ j < n ∧ S j) → ∃ j, k ≤ j ∧ j < n ∧ S j ∧ (0 < mx_Lk a n k j ∨ ∃ i, k ≤ i ∧ i < n ∧ ¬ S i ∧ ds_m a k i j < 0))
def mx_Good (a : Nat → Nat → Int) (n : Nat) : Prop :=
  (∀ i j, i < n → j < n → i ≠ j → a i j ≤ 0) ∧ (∀ j, j < n → 0 ≤ ds_S (fun i => a i j) n) ∧
  (∀ S : Nat → Prop, (∃ j, j < n ∧ S j) → ∃ j, j < n ∧ S j ∧ (0 < ds_S (fun i => a i j) n ∨ ∃ i, i < n ∧ ¬ S i ∧ a i j < 0))
theorem ds_m_0 (a : Nat → Nat → Int) (i j : Nat) : ds_m a 0 i j = a i j := by
  rw [ds_m_eq]
  show a i j * 1 - 0 = a i j
  omega
theorem mx_Lk_0 (a : Nat → Nat → Int) (n j : Nat) : mx_Lk a n 0 j = ds_S (fun i => a i j) n := ds_S_congr fun i _ => ds_m_0 a i j
theorem mx_Inv_0 {a : Nat → Nat → Int} {n : Nat} (h : mx_Good a n) : mx_Inv a n 0 := by
  obtain ⟨h1, h2, h3⟩ := h
  refine ⟨fun i hi => ?_, fun i j _ hi _ hj hne => ?_, fun j _ hj => ?_, fun S hS => ?_⟩
  · rw [show i = 0 by omega]
    show (0 : Int) < 1
    decide
  · rw [ds_m_0]; exact h1 i j hi hj hne
  · rw [mx_Lk_0]; exact h2 j hj
  · obtain ⟨j, -, hj, hs⟩ := hS
    obtain ⟨j, hj, hs, q⟩ := h3 S ⟨j, hj, hs⟩
    refine ⟨j, by omega, hj, hs, ?_⟩
    rw [mx_Lk_0]
    rcases q with q | ⟨i, hi, hn, q⟩
    · exact Or.inl q
    · exact Or.inr ⟨i, by omega, hi, hn, by rw [ds_m_0]; exact q⟩
theorem mx_Inv_pivot {a : Nat → Nat → Int} {n k : Nat} (h : mx_Inv a n k) (hk : k < n) : 0 < ds_d a (k + 1) := by
  obtain ⟨h1, h2, h3, h4⟩ := h
  rw [ds_d_s]
  have hoff : ∀ i, i < n → i ≠ k → ds_m a k i k ≤ 0 := fun i hi hne => by
    rcases Nat.lt_or_ge i k with q | q
    · rw [ds_m_low a k i k q]; exact Int.le_refl 0
    · exact h2 i k q hi (Nat.le_refl k) hk hne
  obtain ⟨j, hj1, hj2, hj3, q⟩ := h4 (fun x => x = k) ⟨k, Nat.le_refl k, hk, rfl⟩
  subst hj3
  rcases q with q | ⟨i, hi1, hi2, hi3, q⟩
  · have := ds_S_le1 (f := fun i => ds_m a j i j) hk hoff
    unfold mx_Lk at q
    omega
  · have := ds_S_le2 (f := fun i => ds_m a j i j) hk hi2 (fun e => hi3 e) hoff
    have h5 := h3 j hj1 hj2
    unfold mx_Lk at h5
    omega
theorem mx_Inv_ne {a : Nat → Nat → Int} {n k : Nat} (h : mx_Inv a n k) : ∀ i, 1 ≤ i → i ≤ k → ds_d a i ≠ 0 := fun i _ h2 => by
  have := h.1 i h2
  omega
theorem mx_Inv_s {a : Nat → Nat → Int} {n k : Nat} (h : mx_Inv a n k) (hk : k < n) : mx_Inv a n (k + 1) := by
  have hp := mx_Inv_pivot h hk
  have hne := mx_Inv_ne h
  obtain ⟨h1, h2, h3, h4⟩ := h
  have hdk := h1 k (Nat.le_refl k)
  have hlk := h3 k (Nat.le_refl k) hk
  have hmkk : ds_m a k k k = ds_d a (k + 1) := (ds_d_s a k).symm
  have hc : ∀ j, k ≤ j → j < n → k ≠ j → ds_m a k k j ≤ 0 := fun j q1 q2 q3 => h2 k j (Nat.le_refl k) hk q1 q2 q3
  have hr : ∀ i, k ≤ i → i < n → i ≠ k → ds_m a k i k ≤ 0 := fun i q1 q2 q3 => h2 i k q1 q2 (Nat.le_refl k) hk q3
  -- a link that was there is there still; a link through k becomes one
  have keep : ∀ i j, k + 1 ≤ i → i < n → k + 1 ≤ j → j < n → i ≠ j → ds_m a k i j < 0 → ds_m a (k + 1) i j < 0 := fun i j a1 a2 a3 a4 a5 q => by
    refine ds_in hdk ?_
    rw [ds_m_step a k i j hne]
    have e1 := ds_imps q hp
    have e2 := ds_imm (hr i (by omega) a2 (by omega)) (hc j (by omega) a4 (by omega))
    rw [Int.mul_comm] at e1
    omega
  have thru : ∀ i j, k + 1 ≤ i → i < n → k + 1 ≤ j → j < n → i ≠ j → ds_m a k i k < 0 → ds_m a k k j < 0 → ds_m a (k + 1) i j < 0 := fun i j a1 a2 a3 a4 a5 q1 q2 => by
    refine ds_in hdk ?_
    rw [ds_m_step a k i j hne]
    have e1 := ds_imms q1 q2
    have e2 := ds_imp (h2 i j (by omega) a2 (by omega) a4 a5) (Int.le_of_lt hp)
    rw [Int.mul_comm] at e2
    omega
  have leak : ∀ j, k + 1 ≤ j → j < n → 0 < mx_Lk a n k j → 0 < mx_Lk a n (k + 1) j := fun j a3 a4 q => by
    refine ds_ip hdk ?_
    rw [mx_Lk_step a n k j hne]
    have e1 := Int.mul_pos hp q
    have e2 := ds_imp (hc j (by omega) a4 (by omega)) hlk
    rw [Int.mul_comm] at e2
    omega
  have leakt : ∀ j, k + 1 ≤ j → j < n → 0 < mx_Lk a n k k → ds_m a k k j < 0 → 0 < mx_Lk a n (k + 1) j := fun j a3 a4 q1 q2 => by
    refine ds_ip hdk ?_
    rw [mx_Lk_step a n k j hne]
    have e1 := ds_imps q2 q1
    have e2 := Int.mul_nonneg (Int.le_of_lt hp) (h3 j (by omega) a4)
    rw [Int.mul_comm] at e1
    omega
  refine ⟨fun i hi => ?_, fun i j a1 a2 a3 a4 a5 => ?_, fun j a1 a2 => ?_, fun S hS => ?_⟩
  · rcases Nat.lt_or_ge k i with q | q
    · rw [show i = k + 1 by omega]; exact hp
    · exact h1 i q
  · refine ds_inp hdk ?_
    rw [ds_m_step a k i j hne]
    have e1 := ds_imm (hr i (by omega) a2 (by omega)) (hc j (by omega) a4 (by omega))
    have e2 := ds_imp (h2 i j (by omega) a2 (by omega) a4 a5) (Int.le_of_lt hp)
    rw [Int.mul_comm] at e2
    omega
  · refine ds_inn hdk ?_
    rw [mx_Lk_step a n k j hne]
    have e1 := Int.mul_nonneg (Int.le_of_lt hp) (h3 j (by omega) a2)
    have e2 := ds_imp (hc j (by omega) a2 (by omega)) hlk
    rw [Int.mul_comm] at e2
    omega
  · -- the set without k
    obtain ⟨j0, b1, b2, b3⟩ := hS
    obtain ⟨j, c1, c2, c3, q⟩ := h4 (fun x => S x ∧ k + 1 ≤ x) ⟨j0, by omega, b2, b3, b1⟩
    rcases q with q | ⟨i, i1, i2, i3, q⟩
    · exact ⟨j, c3.2, c2, c3.1, Or.inl (leak j c3.2 c2 q)⟩
    · by_cases hik : i = k
      · subst hik
        -- j goes to k: see where S and k together get out
        obtain ⟨j', d1, d2, d3, q'⟩ := h4 (fun x => (S x ∧ i + 1 ≤ x) ∨ x = i) ⟨i, Nat.le_refl i, hk, Or.inr rfl⟩
        rcases d3 with d3 | d3
        · rcases q' with q' | ⟨i', e1, e2, e3, q'⟩
          · exact ⟨j', d3.2, d2, d3.1, Or.inl (leak j' d3.2 d2 q')⟩
          · have hne' : i' ≠ i := fun e => e3 (Or.inr e)
            have hns : ¬ S i' := fun e => e3 (Or.inl ⟨e, by omega⟩)
            exact ⟨j', d3.2, d2, d3.1, Or.inr ⟨i', by omega, e2, hns, keep i' j' (by omega) e2 d3.2 d2 (fun e => hns (e ▸ d3.1)) q'⟩⟩
        · subst d3
          rcases q' with q' | ⟨i', e1, e2, e3, q'⟩
          · exact ⟨j, c3.2, c2, c3.1, Or.inl (leakt j c3.2 c2 q' q)⟩
          · have hne' : i' ≠ j' := fun e => e3 (Or.inr e)
            have hns : ¬ S i' := fun e => e3 (Or.inl ⟨e, by omega⟩)
            exact ⟨j, c3.2, c2, c3.1, Or.inr ⟨i', by omega, e2, hns, thru i' j (by omega) e2 c3.2 c2 (fun e => hns (e ▸ c3.1)) q' q⟩⟩
      · have hns : ¬ S i := fun e => i3 ⟨e, by omega⟩
        exact ⟨j, c3.2, c2, c3.1, Or.inr ⟨i, by omega, i2, hns, keep i j (by omega) i2 c3.2 c2 (fun e => hns (e ▸ c3.1)) q⟩⟩
theorem mx_Inv_all {a : Nat → Nat → Int} {n : Nat} (h : mx_Good a n) : ∀ k, k ≤ n → mx_Inv a n k
  | 0, _ => mx_Inv_0 h
  | k + 1, hk => mx_Inv_s (mx_Inv_all h k (by omega)) (by omega)
/-- the rows above the pivot: columns of the matrix -/
theorem mx_C_np {a : Nat → Nat → Int} {n : Nat} (h : mx_Good a n) : ∀ k, k ≤ n → ∀ t j, t < k → k ≤ j → j < n → ds_C a k t j ≤ 0
  | 0, _, t, _, ht, _, _ => absurd ht (by omega)
  | k + 1, hk, t, j, ht, hj, hn => by
    have hI := mx_Inv_all h k (by omega)
    have hp := mx_Inv_pivot hI (by omega)
    rcases Nat.lt_or_ge t k with q | q
    · refine ds_inp (hI.1 k (Nat.le_refl k)) ?_
      rw [ds_C_step a k j t (mx_Inv_ne hI) q]
      have e1 := ds_imm (mx_C_np h k (by omega) t k q (Nat.le_refl k) (by omega)) (hI.2.1 k j (Nat.le_refl k) (by omega) (by omega) hn (by omega))
      have e2 := ds_imp (mx_C_np h k (by omega) t j q (by omega) hn) (Int.le_of_lt hp)
      rw [Int.mul_comm] at e2
      omega
    · rw [show t = k by omega, ds_C_new]
      exact hI.2.1 k j (Nat.le_refl k) (by omega) (by omega) hn (by omega)
/-- a right side of numbers not below 0 -/
theorem mx_Rhs {a : Nat → Nat → Int} {n j : Nat} (h : mx_Good a n) (hj : ∀ i, i < n → 0 ≤ a i j) : ∀ k, k ≤ n → (∀ i, i < n → 0 ≤ ds_m a k i j) ∧ ∀ t, t < k → 0 ≤ ds_C a k t j
  | 0, _ => ⟨fun i hi => by rw [ds_m_0]; exact hj i hi, fun t ht => absurd ht (by omega)⟩
  | k + 1, hk => by
    have hI := mx_Inv_all h k (by omega)
    have hp := mx_Inv_pivot hI (by omega)
    obtain ⟨m1, c1⟩ := mx_Rhs h hj k (by omega)
    refine ⟨fun i hi => ?_, fun t ht => ?_⟩
    · rcases Nat.lt_or_ge i (k + 1) with q | q
      · rw [ds_m_low a (k + 1) i j q]; exact Int.le_refl 0
      · refine ds_inn (hI.1 k (Nat.le_refl k)) ?_
        rw [ds_m_step a k i j (mx_Inv_ne hI)]
        have e1 := Int.mul_nonneg (Int.le_of_lt hp) (m1 i hi)
        have e2 := ds_imp (hI.2.1 i k (by omega) hi (Nat.le_refl k) (by omega) (by omega)) (m1 k (by omega))
        omega
    · rcases Nat.lt_or_ge t k with q | q
      · refine ds_inn (hI.1 k (Nat.le_refl k)) ?_
        rw [ds_C_step a k j t (mx_Inv_ne hI) q]
        have e1 := Int.mul_nonneg (Int.le_of_lt hp) (c1 t q)
        have e2 := ds_imp (mx_C_np h k (by omega) t k q (Nat.le_refl k) (by omega)) (m1 k (by omega))
        omega
      · rw [show t = k by omega, ds_C_new]
        exact m1 k (by omega)
/-- the size of a determinant: at most the product of the columns' sums -/
def ds_nS (f : Nat → Nat) : Nat → Nat
  | 0 => 0
  | n + 1 => ds_nS f n + f n
def ds_nP (f : Nat → Nat) : Nat → Nat
  | 0 => 1
  | n + 1 => ds_nP f n * f n
theorem ds_nP_congr {f g : Nat → Nat} : ∀ {n : Nat}, (∀ i, i < n → f i = g i) → ds_nP f n = ds_nP g n
  | 0, _ => rfl
  | n + 1, h => by
    show ds_nP f n * f n = ds_nP g n * g n
    rw [ds_nP_congr (fun i hi => h i (by omega)), h n (by omega)]
theorem ds_nS_congr {f g : Nat → Nat} : ∀ {n : Nat}, (∀ i, i < n → f i = g i) → ds_nS f n = ds_nS g n
  | 0, _ => rfl
  | n + 1, h => by
    show ds_nS f n + f n = ds_nS g n + g n
    rw [ds_nS_congr (fun i hi => h i (by omega)), h n (by omega)]
theorem ds_nP_mono {f g : Nat → Nat} : ∀ {n : Nat}, (∀ i, i < n → f i ≤ g i) → ds_nP f n ≤ ds_nP g n
  | 0, _ => Nat.le_refl 1
  | n + 1, h => Nat.mul_le_mul (ds_nP_mono (fun i hi => h i (by omega))) (h n (by omega))
theorem ds_nS_mono {f g : Nat → Nat} : ∀ {n : Nat}, (∀ i, i < n → f i ≤ g i) → ds_nS f n ≤ ds_nS g n
  | 0, _ => Nat.le_refl 0
  | n + 1, h => Nat.add_le_add (ds_nS_mono (fun i hi => h i (by omega))) (h n (by omega))
theorem ds_nS_mul (c : Nat) (f : Nat → Nat) : ∀ n : Nat, ds_nS (fun i => f i * c) n = ds_nS f n * c
  | 0 => by simp [ds_nS]
  | n + 1 => by
    show ds_nS (fun i => f i * c) n + f n * c = (ds_nS f n + f n) * c
    rw [ds_nS_mul c f n, Nat.add_mul]
theorem ds_S_abs (f : Nat → Int) : ∀ n : Nat, (ds_S f n).natAbs ≤ ds_nS (fun i => (f i).natAbs) n
  | 0 => Nat.le_refl 0
  | n + 1 => by
    have h1 := ds_S_abs f n
    have h2 := Int.natAbs_add_le (ds_S f n) (f n)
    show (ds_S f n + f n).natAbs ≤ ds_nS (fun i => (f i).natAbs) n + (f n).natAbs
    omega
theorem ds_nP_erase (x y : Nat → Nat) : ∀ n : Nat, ds_nS (fun s => y s * ds_nP (fun t => x (ds_E (fun u => u) s t)) n) (n + 1) ≤ ds_nP (fun t => x t + y t) (n + 1)
  | 0 => by
    show 0 + y 0 * 1 ≤ 1 * (x 0 + y 0)
    omega
  | n + 1 => by
    have ih := ds_nP_erase x y n
    have e1 : ds_nS (fun s => y s * ds_nP (fun t => x (ds_E (fun u => u) s t)) (n + 1)) (n + 1) = ds_nS (fun s => y s * ds_nP (fun t => x (ds_E (fun u => u) s t)) n) (n + 1) * x (n + 1) := by
      rw [← ds_nS_mul]
      refine ds_nS_congr fun s hs => ?_
      show y s * (ds_nP (fun t => x (ds_E (fun u => u) s t)) n * x (ds_E (fun u => u) s n)) = _
      have : ds_E (fun u => u) s n = n + 1 := by unfold ds_E; rw [if_neg (by omega)]
      rw [this, Nat.mul_assoc]
    have e2 : ds_nP (fun t => x (ds_E (fun u => u) (n + 1) t)) (n + 1) = ds_nP x (n + 1) := ds_nP_congr fun t ht => by
      unfold ds_E
      rw [if_pos (by omega)]
    have e3 : ds_nP x (n + 1) ≤ ds_nP (fun t => x t + y t) (n + 1) := ds_nP_mono fun t _ => by omega
    show ds_nS (fun s => y s * ds_nP (fun t => x (ds_E (fun u => u) s t)) (n + 1)) (n + 1) + y (n + 1) * ds_nP (fun t => x (ds_E (fun u => u) (n + 1) t)) (n + 1) ≤ ds_nP (fun t => x t + y t) (n + 1) * (x (n + 1) + y (n + 1))
    rw [e1, e2, Nat.mul_add]
    refine Nat.add_le_add (Nat.mul_le_mul_right _ ih) ?_
    rw [Nat.mul_comm]
    exact Nat.mul_le_mul_right _ e3
theorem ds_D_le (a : Nat → Nat → Int) : ∀ (k : Nat) (J : Nat → Nat), (ds_D a k J).natAbs ≤ ds_nP (fun t => ds_nS (fun i => (a i (J t)).natAbs) k) k
  | 0, _ => Nat.le_refl 1
  | k + 1, J => by
    refine Nat.le_trans (ds_S_abs _ (k + 1)) ?_
    refine Nat.le_trans ?_ (ds_nP_erase (fun t => ds_nS (fun i => (a i (J t)).natAbs) k) (fun t => (a k (J t)).natAbs) k)
    refine ds_nS_mono fun s hs => ?_
    rw [Int.natAbs_mul, Int.natAbs_mul]
    have e1 : (ds_G (k + s)).natAbs = 1 := by
      unfold ds_G
      by_cases q : (k + s) % 2 = 0
      · rw [if_pos q]; rfl
      · rw [if_neg q]; rfl
    rw [e1, Nat.one_mul]
    refine Nat.mul_le_mul_left _ ?_
    refine Nat.le_trans (ds_D_le a k (ds_E J s)) (Nat.le_of_eq (ds_nP_congr fun t ht => ?_))
    show ds_nS (fun i => (a i (ds_E J s t)).natAbs) k = ds_nS (fun i => (a i (J (ds_E (fun u => u) s t))).natAbs) k
    unfold ds_E
    by_cases q : t < s
    · rw [if_pos q, if_pos q]
    · rw [if_neg q, if_neg q]
