theorem pl_uq2 {m : Nat} {c d : Nat → Int} (h : ∀ t : Int, 0 < t → pl_V c m t = pl_V d m t) {k : Nat} (hk : k < m) : c k = d k := by
  have := pl_uq m (fun k => c k - d k) (fun t ht => by rw [pl_V_sub, h t ht]; omega) k hk
  have : c k - d k = 0 := this
  omega
theorem ds_D_ex (a a' : Nat → Nat → Int) : ∀ (k : Nat) (J J' : Nat → Nat), (∀ r t, r < k → t < k → a r (J t) = a' r (J' t)) → ds_D a k J = ds_D a' k J'
  | 0, _, _, _ => rfl
  | k + 1, J, J', q => by
    refine ds_S_congr fun s hs => ?_
    rw [q k s (by omega) hs, ds_D_ex a a' k (ds_E J s) (ds_E J' s) (fun r t hr ht => by
      unfold ds_E
      by_cases w : t < s
      · rw [if_pos w, if_pos w]; exact q r t (by omega) (by omega)
      · rw [if_neg w, if_neg w]; exact q r (t + 1) (by omega) (by omega))]
/-- t I - b, then the columns of I -/
def fl_a (b : Nat → Nat → Int) (n : Nat) (t : Int) : Nat → Nat → Int := fun i j => if j < n then (if i = j then t else 0) - b i j else if i + n = j then 1 else 0
theorem fl_D (b : Nat → Nat → Int) (n : Nat) : ∀ (k : Nat) (J : Nat → Nat), pl_P (k + 1) (fun t => ds_D (fl_a b n t) k J)
  | 0, _ => pl_one 0
  | k + 1, J => by
    have : pl_P (k + 2) (fun t => ds_S (fun s => ds_G (k + s) * fl_a b n t k (J s) * ds_D (fl_a b n t) k (ds_E J s)) (k + 1)) := by
      refine pl_sum fun s _ => ?_
      have ih := fl_D b n k (ds_E J s)
      have h1 := pl_smul (ds_G (k + s)) (pl_tmul ih)
      have h2 : ∀ x : Int, pl_P (k + 2) (fun t => x * ds_D (fl_a b n t) k (ds_E J s)) := fun x => pl_smul x (pl_mono ih (by omega))
      by_cases w : J s < n
      · by_cases w2 : k = J s
        · refine pl_cg (pl_add h1 (h2 (ds_G (k + s) * (- b k (J s))))) fun t => ?_
          show ds_G (k + s) * (if J s < n then (if k = J s then t else 0) - b k (J s) else _) * _ = ds_G (k + s) * (t * ds_D (fl_a b n t) k (ds_E J s)) + _
          rw [if_pos w, if_pos w2]
          generalize ds_G (k + s) = x
          generalize b k (J s) = y
          generalize ds_D (fl_a b n t) k (ds_E J s) = z
          grind
        · refine pl_cg (h2 (ds_G (k + s) * (- b k (J s)))) fun t => ?_
          show ds_G (k + s) * (if J s < n then (if k = J s then t else 0) - b k (J s) else _) * _ = _
          rw [if_pos w, if_neg w2, Int.zero_sub]
      · refine pl_cg (h2 (ds_G (k + s) * (if k + n = J s then 1 else 0))) fun t => ?_
        show ds_G (k + s) * (if J s < n then _ else (if k + n = J s then 1 else 0)) * _ = _
        rw [if_neg w]
    exact this
theorem fl_C (b : Nat → Nat → Int) (n k s j : Nat) : pl_P (k + 1) (fun t => ds_C (fl_a b n t) k s j) := pl_smul _ (fl_D b n k _)
/-- the highest coefficient is 1 -/
theorem fl_mon (b : Nat → Nat → Int) (n : Nat) : ∀ k, k ≤ n → ∃ g : Int → Int, pl_P k g ∧ ∀ t, ds_d (fl_a b n t) k = t ^ k + g t
  | 0, _ => ⟨fun _ => 0, pl_zero 0, fun t => by rw [Int.pow_zero]; rfl⟩
  | k + 1, hk => by
    obtain ⟨g, hg, h⟩ := fl_mon b n k (by omega)
    refine ⟨fun t => (t * g t + (- b k k) * (t ^ k + g t)) + ds_S (fun s => b k s * ds_C (fl_a b n t) k s k) k, ?_, fun t => ?_⟩
    · refine pl_add (pl_add (pl_tmul hg) (pl_smul _ (pl_add (pl_pow k) (pl_mono hg (by omega))))) (pl_sum fun s _ => pl_smul _ (fl_C b n k s k))
    · rw [ds_d_s, ds_m_eq, h t]
      have e1 : fl_a b n t k k = t - b k k := by
        unfold fl_a
        rw [if_pos (by omega), if_pos rfl]
      have e2 : ds_S (fun s => fl_a b n t k s * ds_C (fl_a b n t) k s k) k = - ds_S (fun s => b k s * ds_C (fl_a b n t) k s k) k := by
        rw [← ds_S_neg]
        refine ds_S_congr fun s hs => ?_
        unfold fl_a
        rw [if_pos (by omega), if_neg (by omega), Int.zero_sub, Int.neg_mul]
      rw [e1, e2, Int.pow_succ]
      show _ = t ^ k * t + ((t * g t + (- b k k) * (t ^ k + g t)) + ds_S (fun s => b k s * ds_C (fl_a b n t) k s k) k)
      clear e1 e2 h hg
      generalize ds_S (fun s => b k s * ds_C (fl_a b n t) k s k) k = z
      generalize t ^ k = y
      generalize g t = x
      generalize b k k = w
      grind
/-- the columns of (t + h) I - b beside -/
def fl_x (b : Nat → Nat → Int) (n : Nat) (t h : Int) : Nat → Nat → Int := fun i j => if j < 2 * n then fl_a b n t i j else (if i = j - 2 * n then t + h else 0) - b i (j - 2 * n)
theorem fl_x_lo (b : Nat → Nat → Int) (n : Nat) (t h : Int) (i j : Nat) (hj : j < 2 * n) : fl_x b n t h i j = fl_a b n t i j := if_pos hj
theorem fl_x_hi (b : Nat → Nat → Int) (n : Nat) (t h : Int) (i j : Nat) (hj : j < n) : fl_x b n t h i (2 * n + j) = fl_x b n t h i j + h * fl_x b n t h i (n + j) := by
  rw [fl_x_lo b n t h i j (by omega), fl_x_lo b n t h i (n + j) (by omega)]
  unfold fl_x fl_a
  rw [if_neg (show ¬ 2 * n + j < 2 * n by omega), show 2 * n + j - 2 * n = j by omega, if_pos hj, if_neg (show ¬ n + j < n by omega)]
  by_cases e : i = j
  · rw [if_pos e, if_pos e, if_pos (by omega)]; omega
  · rw [if_neg e, if_neg e, if_neg (by omega)]; omega
theorem fl_der (b : Nat → Nat → Int) (n : Nat) (t h : Int) : ∃ R : Int, ds_d (fl_a b n (t + h)) n = ds_d (fl_a b n t) n + h * ds_S (fun i => ds_C (fl_a b n t) n i (n + i)) n + h * h * R := by
  have key : ∀ i, i ≤ n → ∃ R : Int, ds_D (fl_x b n t h) n (fun s => if s < i then 2 * n + s else s) = ds_d (fl_a b n t) n + h * ds_S (fun i => ds_C (fl_a b n t) n i (n + i)) i + h * h * R := by
    intro i
    induction i with
    | zero =>
      intro _
      refine ⟨0, ?_⟩
      have e : ds_D (fl_x b n t h) n (fun s => if s < 0 then 2 * n + s else s) = ds_d (fl_a b n t) n := ds_D_ex _ _ n _ _ (fun r s _ hs => by
        show fl_x b n t h r (if s < 0 then 2 * n + s else s) = _
        rw [if_neg (by omega)]
        exact fl_x_lo b n t h r s (by omega))
      rw [e]
      show _ = _ + h * 0 + _
      omega
    | succ i ih =>
      intro hi
      obtain ⟨R, hR⟩ := ih (by omega)
      have h1 := ds_D_lin (fl_x b n t h) h n i (fun s => if s < i then 2 * n + s else s) (fun s => if s < i + 1 then 2 * n + s else s) (fun s => if s = i then n + i else if s < i then 2 * n + s else s) (by omega) (fun s hs hne => by
        constructor
        · show (if s < i + 1 then 2 * n + s else s) = if s < i then 2 * n + s else s
          by_cases w : s < i
          · rw [if_pos w, if_pos (by omega)]
          · rw [if_neg w, if_neg (by omega)]
        · show (if s = i then n + i else if s < i then 2 * n + s else s) = if s < i then 2 * n + s else s
          rw [if_neg hne]) (fun r hr => by
        show fl_x b n t h r (if i < i + 1 then 2 * n + i else i) = fl_x b n t h r (if i < i then 2 * n + i else i) + h * fl_x b n t h r (if i = i then n + i else _)
        rw [if_pos (by omega), if_neg (by omega), if_pos rfl]
        exact fl_x_hi b n t h r i (by omega))
      have h2 := ds_D_cg (fl_x b n t h) h n (ds_R i (n + i)) (fun s => if s = i then n + i else if s < i then 2 * n + s else s) (fun r s hr hs => by
        show h ∣ fl_x b n t h r (if s = i then n + i else if s < i then 2 * n + s else s) - fl_x b n t h r (if s = i then n + i else s)
        by_cases w : s = i
        · rw [if_pos w, if_pos w, Int.sub_self]; exact Int.dvd_zero h
        · rw [if_neg w, if_neg w]
          by_cases w2 : s < i
          · rw [if_pos w2, fl_x_hi b n t h r s (by omega)]
            exact ⟨fl_x b n t h r (n + s), by omega⟩
          · rw [if_neg w2, Int.sub_self]; exact Int.dvd_zero h)
      have e3 : ds_D (fl_x b n t h) n (ds_R i (n + i)) = ds_C (fl_a b n t) n i (n + i) := by
        rw [ds_C_R _ _ _ _ (by omega)]
        refine ds_D_ex _ _ n _ _ fun r s _ hs => fl_x_lo b n t h r _ ?_
        unfold ds_R
        by_cases w : s = i
        · rw [if_pos w]; omega
        · rw [if_neg w]; omega
      rw [e3] at h2
      obtain ⟨Q, hQ⟩ := h2
      refine ⟨R + Q, ?_⟩
      rw [h1, hR]
      show _ = _ + h * (ds_S (fun i => ds_C (fl_a b n t) n i (n + i)) i + ds_C (fl_a b n t) n i (n + i)) + _
      generalize ds_D (fl_x b n t h) n (fun s => if s = i then n + i else if s < i then 2 * n + s else s) = x at hQ ⊢
      generalize ds_C (fl_a b n t) n i (n + i) = y at hQ ⊢
      generalize ds_S (fun i => ds_C (fl_a b n t) n i (n + i)) i = z
      generalize ds_d (fl_a b n t) n = w
      have : x = y + h * Q := by omega
      subst this
      grind
  obtain ⟨R, hR⟩ := key n (Nat.le_refl n)
  refine ⟨R, ?_⟩
  rw [← hR]
  unfold ds_d
  refine ds_D_ex _ _ n _ _ fun r s _ hs => ?_
  show _ = fl_x b n t h r (if s < n then 2 * n + s else s)
  rw [if_pos hs]
  unfold fl_x fl_a
  rw [if_pos hs, if_neg (show ¬ 2 * n + s < 2 * n by omega), show 2 * n + s - 2 * n = s by omega]
/-- the coefficients of the characteristic polynomial and of the adjugate -/
theorem fl_main (b : Nat → Nat → Int) (n : Nat) : ∃ (P : Nat → Int) (N : Nat → Nat → Nat → Int), P n = 1 ∧ (∀ e i k, e < n → i < n → k < n → N e i k = ds_S (fun s => b i s * N (e + 1) s k) n + if i = k then P (e + 1) else 0) ∧
    (∀ i k, i < n → k < n → ds_S (fun s => b i s * N 0 s k) n + (if i = k then P 0 else 0) = 0) ∧ (∀ i k, i < n → k < n → N n i k = 0) ∧ (∀ e, e < n → ((e : Int) + 1) * P (e + 1) = ds_S (fun i => N e i i) n) ∧
    P 0 = ds_d (fl_a b n 0) n ∧ ∀ s k, s < n → k < n → N 0 s k = ds_C (fl_a b n 0) n s (n + k) := by
  obtain ⟨P, P0, hP⟩ : pl_P (n + 1) (fun t => ds_d (fl_a b n t) n) := fl_D b n n _
  have hex : ∀ s k, ∃ c : Nat → Int, (∀ e, n + 1 ≤ e → c e = 0) ∧ ∀ t, ds_C (fl_a b n t) n s (n + k) = pl_V c (n + 1) t := fun s k => fl_C b n n s (n + k)
  obtain ⟨N', hN'⟩ : ∃ N' : Nat → Nat → Nat → Int, ∀ s k, (∀ e, n + 1 ≤ e → N' s k e = 0) ∧ ∀ t, ds_C (fl_a b n t) n s (n + k) = pl_V (N' s k) (n + 1) t := ⟨fun s k => Classical.choose (hex s k), fun s k => Classical.choose_spec (hex s k)⟩
  have hN0 : ∀ s k e, n + 1 ≤ e → N' s k e = 0 := fun s k => (hN' s k).1
  have hN : ∀ s k t, ds_C (fl_a b n t) n s (n + k) = pl_V (N' s k) (n + 1) t := fun s k => (hN' s k).2
  -- (t I - b) N = P I
  have hrow : ∀ i k, i < n → k < n → ∀ e, e < n + 2 → pl_sh (N' i k) e = ds_S (fun s => b i s * N' s k e) n + if i = k then P e else 0 := by
    intro i k hi hk e he
    refine pl_uq2 (m := n + 2) (c := pl_sh (N' i k)) (d := fun e => ds_S (fun s => b i s * N' s k e) n + if i = k then P e else 0) (fun t _ => ?_) he
    rw [pl_V_sh, ← hN, pl_V_add, pl_V_sum (fun s e => b i s * N' s k e)]
    have e1 : pl_V (fun e => if i = k then P e else 0) (n + 2) t = if i = k then ds_d (fl_a b n t) n else 0 := by
      by_cases w : i = k
      · rw [if_pos w]
        have : (fun e => if i = k then P e else 0) = P := by funext e; rw [if_pos w]
        rw [this, pl_V_ge P0 (by omega)]
        exact (hP t).symm
      · rw [if_neg w]
        refine ds_S_zero fun e _ => ?_
        show (if i = k then P e else 0) * t ^ e = 0
        rw [if_neg w, Int.zero_mul]
    have e2 : ds_S (fun s => pl_V (fun e => b i s * N' s k e) (n + 2) t) n = ds_S (fun s => b i s * ds_C (fl_a b n t) n s (n + k)) n := ds_S_congr fun s _ => by
      rw [pl_V_smul, pl_V_ge (hN0 s k) (by omega), ← hN]
    have h1 := ds_C_solves (fl_a b n t) n i (n + k) hi
    have e3 : fl_a b n t i (n + k) = if i = k then 1 else 0 := by
      unfold fl_a
      rw [if_neg (by omega)]
      by_cases w : i = k
      · rw [if_pos w, if_pos (by omega)]
      · rw [if_neg w, if_neg (by omega)]
    have e4 : ds_S (fun s => fl_a b n t i s * ds_C (fl_a b n t) n s (n + k)) n = t * ds_C (fl_a b n t) n i (n + k) - ds_S (fun s => b i s * ds_C (fl_a b n t) n s (n + k)) n := by
      have e5 : ds_S (fun s => fl_a b n t i s * ds_C (fl_a b n t) n s (n + k)) n = ds_S (fun s => (if s = i then t * ds_C (fl_a b n t) n i (n + k) else 0) - b i s * ds_C (fl_a b n t) n s (n + k)) n := ds_S_congr fun s hs => by
        show (if s < n then (if i = s then t else 0) - b i s else _) * _ = _
        rw [if_pos hs]
        by_cases w : i = s
        · subst w; rw [if_pos rfl, if_pos rfl, Int.sub_mul]
        · rw [if_neg w, if_neg (fun q => w q.symm), Int.sub_mul, Int.zero_mul]
      rw [e5, ds_S_sub]
      congr 1
      have : ∀ (x : Int) (m : Nat), i < m → ds_S (fun s => if s = i then x else 0) m = x := by
        intro x m
        induction m with
        | zero => intro h; omega
        | succ m ih =>
          intro h
          show ds_S (fun s => if s = i then x else 0) m + (if m = i then x else 0) = x
          by_cases w : m = i
          · rw [if_pos w, ds_S_zero (fun s hs => if_neg (by omega))]; omega
          · rw [if_neg w, ih (by omega)]; omega
      exact this _ n hi
    rw [e4, e3] at h1
    rw [e1, e2]
    by_cases w : i = k
    · rw [if_pos w] at h1 ⊢; omega
    · rw [if_neg w] at h1 ⊢; omega
  refine ⟨P, fun e i k => N' i k e, ?_, fun e i k he hi hk => ?_, fun i k hi hk => ?_, fun i k hi hk => ?_, fun e he => ?_, ?_, fun s k hs hk => ?_⟩
  · obtain ⟨g, ⟨c, c0, hc⟩, hg⟩ := fl_mon b n n (Nat.le_refl n)
    have := pl_uq2 (m := n + 1) (c := P) (d := fun e => (if e = n then 1 else 0) + c e) (fun t _ => by
      rw [← hP t]
      show ds_d (fl_a b n t) n = _
      rw [hg t, pl_V_add, pl_V_ge c0 (by omega), ← hc t]
      congr 1
      show t ^ n = ds_S (fun e => (if e = n then 1 else 0) * t ^ e) n + (if n = n then 1 else 0) * t ^ n
      rw [if_pos rfl, ds_S_zero (fun e he => by rw [if_neg (by omega), Int.zero_mul])]; omega) (show n < n + 1 by omega)
    have h2 : P n = (if n = n then 1 else 0) + c n := this
    rw [if_pos rfl, c0 n (Nat.le_refl n)] at h2
    omega
  · have := hrow i k hi hk (e + 1) (by omega)
    unfold pl_sh at this
    rw [if_neg (by omega)] at this
    exact this
  · have := hrow i k hi hk 0 (by omega)
    unfold pl_sh at this
    rw [if_pos rfl] at this
    exact this.symm
  · have := hrow i k hi hk (n + 1) (by omega)
    unfold pl_sh at this
    rw [if_neg (by omega), P0 (n + 1) (by omega), ds_S_zero (fun s _ => by rw [hN0 s k (n + 1) (by omega), Int.mul_zero])] at this
    have e : (if i = k then (0 : Int) else 0) = 0 := by
      by_cases w : i = k
      · rw [if_pos w]
      · rw [if_neg w]
    rw [e] at this
    exact this
  · have h1 : ∀ t : Int, ds_S (fun i => ds_C (fl_a b n t) n i (n + i)) n = pl_V (pl_d P) n t := fun t => by
      have : ds_S (fun i => ds_C (fl_a b n t) n i (n + i)) n - pl_V (pl_d P) n t = 0 := pl_dv0 fun h hh => by
        obtain ⟨R, hR⟩ := fl_der b n t h
        obtain ⟨Q, hQ⟩ := pl_dv P t h n
        have a1 : ds_d (fl_a b n (t + h)) n = pl_V P (n + 1) (t + h) := hP (t + h)
        have a2 : ds_d (fl_a b n t) n = pl_V P (n + 1) t := hP t
        rw [a1, a2, hQ] at hR
        refine ⟨Q - R, ?_⟩
        generalize ds_S (fun i => ds_C (fl_a b n t) n i (n + i)) n = x at hR ⊢
        generalize pl_V (pl_d P) n t = y at hR ⊢
        have h3 : h * (x - y) = h * (h * (Q - R)) := by grind
        exact Int.eq_of_mul_eq_mul_left (by omega) h3
      omega
    have := pl_uq2 (m := n + 1) (c := pl_d P) (d := fun e => ds_S (fun i => N' i i e) n) (fun t _ => by
      rw [pl_V_sum (fun i e => N' i i e)]
      have e1 : pl_V (pl_d P) (n + 1) t = pl_V (pl_d P) n t := pl_V_ge (fun k hk => by show ((k : Int) + 1) * P (k + 1) = 0; rw [P0 (k + 1) (by omega), Int.mul_zero]) (by omega) t
      rw [e1, ← h1 t]
      exact ds_S_congr fun i _ => hN i i t) (show e < n + 1 by omega)
    exact this
  · have := hP 0
    have h2 : ds_d (fl_a b n 0) n = pl_V P (n + 1) 0 := this
    rw [h2]
    unfold pl_V
    rw [ds_S_head, ds_S_zero (fun k _ => by rw [Int.pow_succ, Int.mul_zero, Int.mul_zero]), Int.pow_zero]; omega
  · show N' s k 0 = _
    rw [hN s k 0]
    unfold pl_V
    rw [ds_S_head, ds_S_zero (fun k _ => by rw [Int.pow_succ, Int.mul_zero, Int.mul_zero]), Int.pow_zero]; omega
