/-! The same modulo p, with inverses of 1 .. n. -/
theorem dv_mul {p x : Int} (h : p ∣ x) (z : Int) : p ∣ z * x := by
  obtain ⟨w, rfl⟩ := h
  exact ⟨z * w, by grind⟩
theorem dv_S2 {p : Int} {f g : Nat → Int} {n : Nat} (h : ∀ i, i < n → p ∣ f i - g i) : p ∣ ds_S f n - ds_S g n := by
  rw [← ds_S_sub]; exact ds_S_dvd h
theorem dv_tr {p x y z : Int} (h : p ∣ x - y) (g : p ∣ y - z) : p ∣ x - z := by
  have := Int.dvd_add h g
  rw [show x - y + (y - z) = x - z by omega] at this
  exact this
theorem fl_mod {p : Int} {b : Nat → Nat → Int} {n : Nat} {P : Nat → Int} {N : Nat → Nat → Nat → Int} (h1 : P n = 1) (h2 : ∀ e i k, e < n → i < n → k < n → N e i k = ds_S (fun s => b i s * N (e + 1) s k) n + if i = k then P (e + 1) else 0)
    (h3 : ∀ i k, i < n → k < n → ds_S (fun s => b i s * N 0 s k) n + (if i = k then P 0 else 0) = 0) (h4 : ∀ i k, i < n → k < n → N n i k = 0) (h5 : ∀ e, e < n → ((e : Int) + 1) * P (e + 1) = ds_S (fun i => N e i i) n)
    {M : Nat → Nat → Nat → Int} {c iv : Nat → Int} (m0 : ∀ i j, i < n → j < n → p ∣ M 0 i j) (c0 : p ∣ c 0 - 1) (m1 : ∀ k i j, k < n → i < n → j < n → p ∣ M (k + 1) i j - (ds_S (fun s => b i s * M k s j) n + if i = j then c k else 0))
    (c1 : ∀ k, k < n → p ∣ c (k + 1) - (- (iv (k + 1) * ds_S (fun i => ds_S (fun s => b i s * M (k + 1) s i) n) n))) (hiv : ∀ k : Nat, 1 ≤ k → k ≤ n → p ∣ iv k * (k : Int) - 1) : ∀ k, k ≤ n → (∀ i j, i < n → j < n → p ∣ M k i j - N (n - k) i j) ∧ p ∣ c k - P (n - k)
  | 0, _ => ⟨fun i j hi hj => by rw [show n - 0 = n from rfl, h4 i j hi hj, Int.sub_zero]; exact m0 i j hi hj, by rw [show n - 0 = n from rfl, h1]; exact c0⟩
  | k + 1, hk => by
    obtain ⟨a1, a2⟩ := fl_mod h1 h2 h3 h4 h5 m0 c0 m1 c1 hiv k (by omega)
    have hM : ∀ i j, i < n → j < n → p ∣ M (k + 1) i j - N (n - (k + 1)) i j := fun i j hi hj => by
      refine dv_tr (m1 k i j (by omega) hi hj) ?_
      rw [h2 (n - (k + 1)) i j (by omega) hi hj, show n - (k + 1) + 1 = n - k by omega]
      have q1 : p ∣ ds_S (fun s => b i s * M k s j) n - ds_S (fun s => b i s * N (n - k) s j) n := dv_S2 fun s hs => by
        rw [← Int.mul_sub]; exact dv_mul (a1 s j hs hj) _
      by_cases w : i = j
      · rw [if_pos w, if_pos w]
        have := Int.dvd_add q1 a2
        rw [show ds_S (fun s => b i s * M k s j) n - ds_S (fun s => b i s * N (n - k) s j) n + (c k - P (n - k)) = ds_S (fun s => b i s * M k s j) n + c k - (ds_S (fun s => b i s * N (n - k) s j) n + P (n - k)) by omega] at this
        exact this
      · rw [if_neg w, if_neg w, Int.add_zero, Int.add_zero]; exact q1
    refine ⟨hM, dv_tr (c1 k (by omega)) ?_⟩
    -- the trace
    have hT : ds_S (fun i => ds_S (fun s => b i s * N (n - (k + 1)) s i) n) n = - (((k : Int) + 1) * P (n - (k + 1))) := by
      have hn : ∀ x : Int, ds_S (fun _ => x) n = (n : Int) * x := fun x => by
        have : ∀ m : Nat, ds_S (fun _ => x) m = (m : Int) * x := by
          intro m
          induction m with
          | zero => show (0 : Int) = 0 * x; omega
          | succ m ih =>
            show ds_S (fun _ => x) m + x = ((m + 1 : Nat) : Int) * x
            rw [ih, show ((m + 1 : Nat) : Int) = (m : Int) + 1 by omega, Int.add_mul]; omega
        exact this n
      rcases Nat.eq_zero_or_pos (n - (k + 1)) with q | q
      · rw [q]
        have e : ds_S (fun i => ds_S (fun s => b i s * N 0 s i) n) n = ds_S (fun _ => - P 0) n := ds_S_congr fun i hi => by
          have := h3 i i hi hi
          rw [if_pos rfl] at this
          show ds_S (fun s => b i s * N 0 s i) n = - P 0
          omega
        rw [e, hn, show (n : Int) = (k : Int) + 1 by omega, Int.mul_neg]
      · have e : ds_S (fun i => ds_S (fun s => b i s * N (n - (k + 1)) s i) n) n = ds_S (fun i => N (n - (k + 1) - 1) i i - P (n - (k + 1))) n := ds_S_congr fun i hi => by
          have := h2 (n - (k + 1) - 1) i i (by omega) hi hi
          rw [if_pos rfl, show n - (k + 1) - 1 + 1 = n - (k + 1) by omega] at this
          show ds_S (fun s => b i s * N (n - (k + 1)) s i) n = N (n - (k + 1) - 1) i i - P (n - (k + 1))
          omega
        have h6 := h5 (n - (k + 1) - 1) (by omega)
        rw [show n - (k + 1) - 1 + 1 = n - (k + 1) by omega] at h6
        rw [e, ds_S_sub, ← h6, hn, show ((n - (k + 1) - 1 : Nat) : Int) = (n : Int) - k - 2 by omega]
        generalize P (n - (k + 1)) = x
        generalize (n : Int) = y
        generalize (k : Int) = z
        grind
    have hD : p ∣ ds_S (fun i => ds_S (fun s => b i s * M (k + 1) s i) n) n - ds_S (fun i => ds_S (fun s => b i s * N (n - (k + 1)) s i) n) n := dv_S2 fun i hi => dv_S2 fun s hs => by
      rw [← Int.mul_sub]; exact dv_mul (hM s i hs hi) _
    have hv := hiv (k + 1) (by omega) (by omega)
    rw [hT] at hD
    obtain ⟨x, hx⟩ := hD
    obtain ⟨y, hy⟩ := hv
    refine ⟨- (iv (k + 1) * x) + y * P (n - (k + 1)), ?_⟩
    generalize ds_S (fun i => ds_S (fun s => b i s * M (k + 1) s i) n) n = T at hx ⊢
    generalize P (n - (k + 1)) = u at hx ⊢
    generalize iv (k + 1) = v at hy ⊢
    rw [show ((k + 1 : Nat) : Int) = (k : Int) + 1 by omega] at hy
    generalize (k : Int) + 1 = z at hx hy
    have e1 : T = p * x - z * u := by omega
    subst e1
    have e2 : v * z = 1 + p * y := by omega
    grind
theorem ds_G_1 : ds_G 1 = -1 := rfl
/-- all columns with the other sign -/
theorem ds_D_neg (a a' : Nat → Nat → Int) : ∀ (k : Nat) (J J' : Nat → Nat), (∀ r t, r < k → t < k → a' r (J' t) = - a r (J t)) → ds_D a' k J' = ds_G k * ds_D a k J
  | 0, _, _, _ => rfl
  | k + 1, J, J', q => by
    show ds_S (fun s => ds_G (k + s) * a' k (J' s) * ds_D a' k (ds_E J' s)) (k + 1) = ds_G (k + 1) * ds_S (fun s => ds_G (k + s) * a k (J s) * ds_D a k (ds_E J s)) (k + 1)
    rw [← ds_S_mul]
    refine ds_S_congr fun s hs => ?_
    rw [q k s (by omega) hs, ds_D_neg a a' k (ds_E J s) (ds_E J' s) (fun r t hr ht => by
      unfold ds_E
      by_cases w : t < s
      · rw [if_pos w, if_pos w]; exact q r t (by omega) (by omega)
      · rw [if_neg w, if_neg w]; exact q r (t + 1) (by omega) (by omega)), ds_G_s]
    generalize ds_G k = x
    generalize ds_G (k + s) = y
    generalize a k (J s) = z
    generalize ds_D a k (ds_E J s) = w
    grind
theorem ds_D_scl (a a' : Nat → Nat → Int) (h : Int) : ∀ (k u : Nat) (J J' : Nat → Nat), u < k → (∀ r t, r < k → t < k → t ≠ u → a' r (J' t) = a r (J t)) → (∀ r, r < k → a' r (J' u) = h * a r (J u)) → ds_D a' k J' = h * ds_D a k J
  | 0, _, _, _, hu, _, _ => absurd hu (by omega)
  | k + 1, u, J, J', hu, h1, h2 => by
    show ds_S (fun s => ds_G (k + s) * a' k (J' s) * ds_D a' k (ds_E J' s)) (k + 1) = h * ds_S (fun s => ds_G (k + s) * a k (J s) * ds_D a k (ds_E J s)) (k + 1)
    rw [← ds_S_mul]
    refine ds_S_congr fun s hs => ?_
    by_cases e : s = u
    · subst e
      have e1 : ds_D a' k (ds_E J' s) = ds_D a k (ds_E J s) := ds_D_ex _ _ k _ _ fun r t hr ht => by
        unfold ds_E
        by_cases w : t < s
        · rw [if_pos w, if_pos w, h1 r t (by omega) (by omega) (by omega)]
        · rw [if_neg w, if_neg w, h1 r (t + 1) (by omega) (by omega) (by omega)]
      rw [e1, h2 k (by omega)]
      generalize ds_G (k + s) = x
      generalize a k (J s) = y
      generalize ds_D a k (ds_E J s) = z
      grind
    · have key := ds_D_scl a a' h k (if u < s then u else u - 1) (ds_E J s) (ds_E J' s) (by by_cases w : u < s; rw [if_pos w]; omega; rw [if_neg w]; omega) (fun r t hr ht n => by
        unfold ds_E
        by_cases w : t < s
        · rw [if_pos w, if_pos w]
          refine h1 r t (by omega) (by omega) (fun z => n ?_)
          rw [if_pos (by omega)]; exact z
        · rw [if_neg w, if_neg w]
          refine h1 r (t + 1) (by omega) (by omega) (fun z => n ?_)
          rw [if_neg (by omega)]; omega) (fun r hr => by
        unfold ds_E
        by_cases w : u < s
        · rw [if_pos w, if_pos w, if_pos w]; exact h2 r (by omega)
        · rw [if_neg w, if_neg (by omega), if_neg (by omega), show u - 1 + 1 = u by omega]; exact h2 r (by omega))
      rw [h1 k s (by omega) hs e, key]
      generalize ds_G (k + s) = x
      generalize a k (J s) = y
      generalize ds_D a k (ds_E J s) = z
      grind
/-- b, then the columns of I -/
def fl_b (b : Nat → Nat → Int) (n : Nat) : Nat → Nat → Int := fun i j => if j < n then b i j else if i + n = j then 1 else 0
theorem fl_d9 (b : Nat → Nat → Int) (n : Nat) : ds_d (fl_a b n 0) n = ds_G n * ds_d (fl_b b n) n := ds_D_neg _ _ n _ _ fun r t _ ht => by
  unfold fl_a fl_b
  rw [if_pos ht, if_pos ht]
  by_cases w : r = t
  · rw [if_pos w]; omega
  · rw [if_neg w]; omega
theorem fl_C9 (b : Nat → Nat → Int) (n i k : Nat) (hi : i < n) : ds_C (fl_a b n 0) n i (n + k) = ds_G (n + 1) * ds_C (fl_b b n) n i (n + k) := by
  rw [ds_C_R _ _ _ _ hi, ds_C_R _ _ _ _ hi]
  -- first the column i alone, then all
  have h1 := ds_D_scl (fl_a b n 0) (fun r t => if t = i then - fl_a b n 0 r (n + k) else fl_a b n 0 r t) (-1) n i (ds_R i (n + k)) (fun t => t) hi (fun r t _ _ ht => by
    show (if t = i then _ else _) = _
    unfold ds_R
    rw [if_neg ht, if_neg ht]) (fun r _ => by
    show (if i = i then - fl_a b n 0 r (n + k) else _) = _
    unfold ds_R
    rw [if_pos rfl, if_pos rfl]; omega)
  have h2 := ds_D_neg (fl_b b n) (fun r t => if t = i then - fl_a b n 0 r (n + k) else fl_a b n 0 r t) n (ds_R i (n + k)) (fun t => t) (fun r t _ ht => by
    show (if t = i then - fl_a b n 0 r (n + k) else fl_a b n 0 r t) = _
    unfold ds_R
    by_cases w : t = i
    · rw [if_pos w, if_pos w]
      unfold fl_a fl_b
      rw [if_neg (show ¬ n + k < n by omega), if_neg (show ¬ n + k < n by omega)]
    · rw [if_neg w, if_neg w]
      unfold fl_a fl_b
      rw [if_pos ht, if_pos ht]
      by_cases w : r = t
      · rw [if_pos w]; omega
      · rw [if_neg w]; omega)
  rw [h1] at h2
  rw [ds_G_s]
  generalize ds_D (fl_a b n 0) n (ds_R i (n + k)) = x at h2 ⊢
  generalize ds_D (fl_b b n) n (ds_R i (n + k)) = y at h2 ⊢
  generalize ds_G n = z at h2 ⊢
  grind
