/-! Faddeev and LeVerrier: the characteristic polynomial and the adjugate, coefficient by coefficient. -/
theorem ds_S_head (f : Nat → Int) : ∀ m : Nat, ds_S f (m + 1) = f 0 + ds_S (fun k => f (k + 1)) m
  | 0 => by show 0 + f 0 = f 0 + 0; omega
  | m + 1 => by
    show ds_S f (m + 1) + f (m + 1) = f 0 + (ds_S (fun k => f (k + 1)) m + f (m + 1))
    rw [ds_S_head f m]; omega
theorem ds_S_swap (f : Nat → Nat → Int) (n : Nat) : ∀ m : Nat, ds_S (fun i => ds_S (fun j => f i j) n) m = ds_S (fun j => ds_S (fun i => f i j) m) n
  | 0 => (ds_S_zero (fun _ _ => rfl)).symm
  | m + 1 => by
    show ds_S (fun i => ds_S (fun j => f i j) n) m + ds_S (fun j => f m j) n = ds_S (fun j => ds_S (fun i => f i j) m + f m j) n
    rw [ds_S_swap f n m, ds_S_add]
/-- two terms that stand beside each other change places -/
theorem ds_S_sw2 {f g : Nat → Int} {u : Nat} : ∀ {n : Nat}, u + 1 < n → (∀ i, i < n → i ≠ u → i ≠ u + 1 → f i = g i) → f u = g (u + 1) → f (u + 1) = g u → ds_S f n = ds_S g n
  | 0, h, _, _, _ => absurd h (by omega)
  | n + 1, h, h1, h2, h3 => by
    by_cases e : u + 1 = n
    · subst e
      show (ds_S f u + f u) + f (u + 1) = (ds_S g u + g u) + g (u + 1)
      rw [ds_S_congr (f := f) (g := g) (fun i hi => h1 i (by omega) (by omega) (by omega)), h2, h3]; omega
    · show ds_S f n + f n = ds_S g n + g n
      rw [ds_S_sw2 (n := n) (by omega) (fun i hi => h1 i (by omega)) h2 h3, h1 n (by omega) (by omega) (by omega)]
/-- columns that stand beside each other change places -/
theorem ds_D_sw (a : Nat → Nat → Int) : ∀ (k u : Nat) (J J' : Nat → Nat), u + 1 < k → (∀ t, t < k → t ≠ u → t ≠ u + 1 → J' t = J t) → J' u = J (u + 1) → J' (u + 1) = J u → ds_D a k J' = - ds_D a k J
  | 0, _, _, _, h, _, _, _ => absurd h (by omega)
  | k + 1, u, J, J', h, h1, h2, h3 => by
    show ds_S (fun s => ds_G (k + s) * a k (J' s) * ds_D a k (ds_E J' s)) (k + 1) = - ds_S (fun s => ds_G (k + s) * a k (J s) * ds_D a k (ds_E J s)) (k + 1)
    rw [← ds_S_neg]
    refine ds_S_sw2 (u := u) h (fun s hs n1 n2 => ?_) ?_ ?_
    · rw [h1 s hs n1 n2]
      rcases Nat.lt_or_ge s u with q | q
      · have key := ds_D_sw a k (u - 1) (ds_E J s) (ds_E J' s) (by omega) (fun t ht q1 q2 => by
          unfold ds_E
          by_cases w : t < s
          · rw [if_pos w, if_pos w, h1 t (by omega) (by omega) (by omega)]
          · rw [if_neg w, if_neg w, h1 (t + 1) (by omega) (by omega) (by omega)]) (by
          unfold ds_E
          rw [if_neg (by omega), if_neg (by omega), show u - 1 + 1 = u by omega, h2]) (by
          unfold ds_E
          rw [if_neg (by omega), if_neg (by omega), show u - 1 + 1 = u by omega, h3])
        rw [key, Int.mul_neg]
      · have key := ds_D_sw a k u (ds_E J s) (ds_E J' s) (by omega) (fun t ht q1 q2 => by
          unfold ds_E
          by_cases w : t < s
          · rw [if_pos w, if_pos w, h1 t (by omega) (by omega) (by omega)]
          · rw [if_neg w, if_neg w, h1 (t + 1) (by omega) (by omega) (by omega)]) (by
          unfold ds_E
          rw [if_pos (by omega), if_pos (by omega), h2]) (by
          unfold ds_E
          rw [if_pos (by omega), if_pos (by omega), h3])
        rw [key, Int.mul_neg]
    · have e : ds_D a k (ds_E J' u) = ds_D a k (ds_E J (u + 1)) := ds_D_congr a k fun t ht => by
        unfold ds_E
        by_cases w : t < u
        · rw [if_pos w, if_pos (by omega), h1 t (by omega) (by omega) (by omega)]
        · rw [if_neg w]
          by_cases w2 : t = u
          · subst w2; rw [if_pos (by omega), h3]
          · rw [if_neg (by omega), h1 (t + 1) (by omega) (by omega) (by omega)]
      rw [h2, e, show k + (u + 1) = k + u + 1 from rfl, ds_G_s]
      generalize ds_G (k + u) = x
      generalize a k (J (u + 1)) = y
      generalize ds_D a k (ds_E J (u + 1)) = z
      grind
    · have e : ds_D a k (ds_E J' (u + 1)) = ds_D a k (ds_E J u) := ds_D_congr a k fun t ht => by
        unfold ds_E
        by_cases w : t < u
        · rw [if_pos w, if_pos (by omega), h1 t (by omega) (by omega) (by omega)]
        · rw [if_neg w]
          by_cases w2 : t = u
          · subst w2; rw [if_pos (by omega), h2]
          · rw [if_neg (by omega), h1 (t + 1) (by omega) (by omega) (by omega)]
      rw [h3, e, show k + (u + 1) = k + u + 1 from rfl, ds_G_s]
      generalize ds_G (k + u) = x
      generalize a k (J u) = y
      generalize ds_D a k (ds_E J u) = z
      grind
/-- column j at place v, the others of I in order around it -/
def ds_K (I : Nat → Nat) (j v : Nat) : Nat → Nat := fun t => if t < v then I t else if t = v then j else I (t - 1)
theorem ds_K_mv (a : Nat → Nat → Int) (I : Nat → Nat) (j k : Nat) : ∀ (e v : Nat), v + e + 1 = k → ds_D a k (ds_K I j v) = ds_G e * ds_D a k (ds_K I j (k - 1))
  | 0, v, h => by
    rw [show k - 1 = v by omega]
    show _ = (if 0 % 2 = 0 then (1 : Int) else -1) * _
    rw [if_pos rfl, Int.one_mul]
  | e + 1, v, h => by
    have ih := ds_K_mv a I j k e (v + 1) (by omega)
    have := ds_D_sw a k v (ds_K I j (v + 1)) (ds_K I j v) (by omega) (fun t ht n1 n2 => by
      unfold ds_K
      by_cases w : t < v
      · rw [if_pos w, if_pos (by omega)]
      · rw [if_neg w, if_neg (by omega), if_neg (by omega), if_neg (by omega)]) (by
      unfold ds_K
      rw [if_neg (by omega), if_pos rfl, if_neg (by omega), if_pos rfl]) (by
      unfold ds_K
      rw [if_neg (by omega), if_neg (by omega), if_pos (by omega)]
      congr 1)
    rw [this, ih, ds_G_s]
    generalize ds_G e = x
    generalize ds_D a k (ds_K I j (k - 1)) = y
    grind
/-- Cramer's number: the column i is another -/
def ds_R (i j : Nat) : Nat → Nat := fun t => if t = i then j else t
theorem ds_C_R (a : Nat → Nat → Int) (k i j : Nat) (hi : i < k) : ds_C a k i j = ds_D a k (ds_R i j) := by
  have h1 := ds_K_mv a (ds_E (fun t => t) i) j k (k - 1 - i) i (by omega)
  have e1 : ds_D a k (ds_K (ds_E (fun t => t) i) j i) = ds_D a k (ds_R i j) := ds_D_congr a k fun t ht => by
    unfold ds_K ds_R ds_E
    by_cases w : t < i
    · rw [if_pos w, if_pos w, if_neg (by omega)]
    · rw [if_neg w]
      by_cases w2 : t = i
      · rw [if_pos w2, if_pos w2]
      · rw [if_neg w2, if_neg w2, if_neg (by omega)]
        show t - 1 + 1 = t
        omega
  have e2 : ds_D a k (ds_K (ds_E (fun t => t) i) j (k - 1)) = ds_D a k (ds_E (ds_J k j) i) := ds_D_congr a k fun t ht => by
    unfold ds_K ds_E ds_J
    by_cases w : t < k - 1
    · rw [if_pos w]
      by_cases w2 : t < i
      · rw [if_pos w2, if_pos w2, if_pos (by omega)]
      · rw [if_neg w2, if_neg w2, if_pos (by omega)]
    · rw [if_neg w, if_pos (by omega), if_neg (by omega), if_neg (by omega)]
  rw [e1, e2] at h1
  unfold ds_C
  rw [h1]
  have e3 : ds_G (k + i + 1) = ds_G (k - 1 - i) := by
    unfold ds_G
    rw [show (k + i + 1) % 2 = (k - 1 - i) % 2 by omega]
  rw [e3]
/-- a determinant is linear in what stands at one place -/
theorem ds_D_lin (a : Nat → Nat → Int) (h : Int) : ∀ (k u : Nat) (J J' J'' : Nat → Nat), u < k → (∀ t, t < k → t ≠ u → J' t = J t ∧ J'' t = J t) → (∀ r, r < k → a r (J' u) = a r (J u) + h * a r (J'' u)) → ds_D a k J' = ds_D a k J + h * ds_D a k J''
  | 0, _, _, _, _, hu, _, _ => absurd hu (by omega)
  | k + 1, u, J, J', J'', hu, h1, h2 => by
    show ds_S (fun s => ds_G (k + s) * a k (J' s) * ds_D a k (ds_E J' s)) (k + 1) = ds_S (fun s => ds_G (k + s) * a k (J s) * ds_D a k (ds_E J s)) (k + 1) + h * ds_S (fun s => ds_G (k + s) * a k (J'' s) * ds_D a k (ds_E J'' s)) (k + 1)
    rw [← ds_S_mul, ← ds_S_add]
    refine ds_S_congr fun s hs => ?_
    by_cases e : s = u
    · subst e
      have e1 : ds_D a k (ds_E J' s) = ds_D a k (ds_E J s) := ds_D_congr a k fun t ht => by
        unfold ds_E
        by_cases w : t < s
        · rw [if_pos w, if_pos w, (h1 t (by omega) (by omega)).1]
        · rw [if_neg w, if_neg w, (h1 (t + 1) (by omega) (by omega)).1]
      have e2 : ds_D a k (ds_E J'' s) = ds_D a k (ds_E J s) := ds_D_congr a k fun t ht => by
        unfold ds_E
        by_cases w : t < s
        · rw [if_pos w, if_pos w, (h1 t (by omega) (by omega)).2]
        · rw [if_neg w, if_neg w, (h1 (t + 1) (by omega) (by omega)).2]
      rw [e1, e2, h2 k (by omega)]
      generalize ds_G (k + s) = x
      generalize a k (J s) = y
      generalize a k (J'' s) = y'
      generalize ds_D a k (ds_E J s) = z
      grind
    · obtain ⟨q1, q2⟩ := h1 s hs e
      have key := ds_D_lin a h k (if u < s then u else u - 1) (ds_E J s) (ds_E J' s) (ds_E J'' s) (by by_cases w : u < s; rw [if_pos w]; omega; rw [if_neg w]; omega) (fun t ht n => by
        unfold ds_E
        by_cases w : t < s
        · rw [if_pos w, if_pos w, if_pos w]
          refine h1 t (by omega) (fun z => n ?_)
          rw [if_pos (by omega)]; exact z
        · rw [if_neg w, if_neg w, if_neg w]
          refine h1 (t + 1) (by omega) (fun z => n ?_)
          rw [if_neg (by omega)]; omega) (fun r hr => by
        unfold ds_E
        by_cases w : u < s
        · rw [if_pos w, if_pos w, if_pos w, if_pos w]; exact h2 r (by omega)
        · rw [if_neg w, if_neg (by omega), if_neg (by omega), if_neg (by omega), show u - 1 + 1 = u by omega]; exact h2 r (by omega))
      rw [q1, q2, key]
      generalize ds_G (k + s) = x
      generalize a k (J s) = y
      generalize ds_D a k (ds_E J s) = z
      generalize ds_D a k (ds_E J'' s) = z'
      grind
theorem ds_S_dvd {h : Int} {f : Nat → Int} : ∀ {n : Nat}, (∀ i, i < n → h ∣ f i) → h ∣ ds_S f n
  | 0, _ => Int.dvd_zero h
  | n + 1, q => Int.dvd_add (ds_S_dvd (fun i hi => q i (by omega))) (q n (by omega))
theorem ds_D_cg (a : Nat → Nat → Int) (h : Int) : ∀ (k : Nat) (J J' : Nat → Nat), (∀ r t, r < k → t < k → h ∣ a r (J' t) - a r (J t)) → h ∣ ds_D a k J' - ds_D a k J
  | 0, _, _, _ => by show h ∣ 1 - 1; exact Int.dvd_zero h
  | k + 1, J, J', q => by
    show h ∣ ds_S (fun s => ds_G (k + s) * a k (J' s) * ds_D a k (ds_E J' s)) (k + 1) - ds_S (fun s => ds_G (k + s) * a k (J s) * ds_D a k (ds_E J s)) (k + 1)
    rw [← ds_S_sub]
    refine ds_S_dvd fun s hs => ?_
    have h1 := ds_D_cg a h k (ds_E J s) (ds_E J' s) (fun r t hr ht => by
      unfold ds_E
      by_cases w : t < s
      · rw [if_pos w, if_pos w]; exact q r t (by omega) (by omega)
      · rw [if_neg w, if_neg w]; exact q r (t + 1) (by omega) (by omega))
    have h2 := q k s (by omega) hs
    obtain ⟨x, hx⟩ := h1
    obtain ⟨y, hy⟩ := h2
    refine ⟨ds_G (k + s) * y * ds_D a k (ds_E J' s) + ds_G (k + s) * a k (J s) * x, ?_⟩
    generalize ds_G (k + s) = g
    generalize a k (J' s) = a1 at hy ⊢
    generalize a k (J s) = a0 at hy ⊢
    generalize ds_D a k (ds_E J' s) = d1 at hx ⊢
    generalize ds_D a k (ds_E J s) = d0 at hx ⊢
    have e1 : a1 = a0 + h * y := by omega
    have e2 : d1 = d0 + h * x := by omega
    subst e1 e2
    grind
