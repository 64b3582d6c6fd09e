/-! Bareiss on the cells: beside the diagonal they stand for their negatives. -/
def bz_v (a : Nat → Nat → Int) (k i j : Nat) : Int := if i < k then ds_C a k i j else ds_m a k i j
def bz_g (n i j : Nat) : Int := if i = j ∨ n ≤ j then 1 else -1
def bz_E (a : Nat → Nat → Int) (n rs k r c : Nat) (V : Nat → Nat) : Prop :=
  (V 108 : Int) = ds_d a k ∧ (∀ i, i < n → (V (12 * i + k) : Int) = bz_g n i k * bz_v a k i k) ∧
  ∀ i, i < n → ∀ j, k < j → j < n + rs → (V (12 * i + j) : Int) = bz_g n i j * (if i ≠ k ∧ (i < r ∨ (i = r ∧ j < c)) then bz_v a (k + 1) i j else bz_v a k i j)
/-- how big all of it is -/
def bz_B (a : Nat → Nat → Int) (n rs B : Nat) : Prop := (∀ k, k ≤ n → (ds_d a k).natAbs ≤ B) ∧ ∀ k, k ≤ n → ∀ i, i < n → ∀ j, k ≤ j → j < n + rs → (bz_v a k i j).natAbs ≤ B
theorem mx_diag {a : Nat → Nat → Int} {n k r : Nat} (h : mx_Inv a n k) (hr : k ≤ r) (hn : r < n) : 0 ≤ ds_m a k r r := by
  have h3 := h.2.2.1 r hr hn
  unfold mx_Lk at h3
  have := ds_S_le1 (f := fun i => ds_m a k i r) hn (fun i hi hne => by
    rcases Nat.lt_or_ge i k with q | q
    · show ds_m a k i r ≤ 0
      rw [ds_m_low a k i r q]; exact Int.le_refl 0
    · exact h.2.1 i r q hi hr hn hne)
  omega
theorem bz_step (a : Nat → Nat → Int) {k r c : Nat} (hd : ∀ i, 1 ≤ i → i ≤ k → ds_d a i ≠ 0) (hrk : r ≠ k) : ds_d a k * bz_v a (k + 1) r c = ds_d a (k + 1) * bz_v a k r c - bz_v a k r k * ds_m a k k c := by
  unfold bz_v
  rcases Nat.lt_or_ge r k with q | q
  · rw [if_pos (by omega), if_pos q, if_pos q]
    exact ds_C_step a k c r hd q
  · rw [if_neg (by omega), if_neg (by omega), if_neg (by omega)]
    exact ds_m_step a k r c hd
theorem bz_kk (a : Nat → Nat → Int) (k : Nat) : bz_v a k k k = ds_d a (k + 1) := by
  unfold bz_v
  rw [if_neg (by omega)]; exact (ds_d_s a k).symm
theorem bz_kc (a : Nat → Nat → Int) (k c : Nat) : bz_v a k k c = ds_m a k k c := by
  unfold bz_v
  rw [if_neg (by omega)]
/-- one cell -/
theorem bz_cell {a : Nat → Nat → Int} {n rs k r c : Nat} {V : Nat → Nat} (hG : mx_Good a n) (hE : bz_E a n rs k r c V) (hk : k < n) (hr : r < n) (hrk : r ≠ k) (hc : k < c) (hcn : c < n + rs) :
    0 < V 108 ∧ (r = c → V (12 * r + k) * V (12 * k + c) ≤ V (12 * k + k) * V (12 * r + c)) ∧
    (((if r = c then V (12 * k + k) * V (12 * r + c) - V (12 * r + k) * V (12 * k + c) else V (12 * k + k) * V (12 * r + c) + V (12 * r + k) * V (12 * k + c)) / V 108 : Nat) : Int) = bz_g n r c * bz_v a (k + 1) r c := by
  obtain ⟨hb, hcol, hall⟩ := hE
  have hI := mx_Inv_all hG k (by omega)
  have hd := hI.1 k (Nat.le_refl k)
  have hne := mx_Inv_ne hI
  have hI1 := mx_Inv_all hG (k + 1) (by omega)
  have hpv := hcol k hk
  rw [bz_kk, show bz_g n k k = 1 from if_pos (Or.inl rfl), Int.one_mul] at hpv
  have htr := hcol r hr
  rw [show bz_g n r k = -1 from if_neg (by omega)] at htr
  have hx := hall r hr c hc hcn
  rw [if_neg (by omega)] at hx
  have hfc := hall k hk c hc hcn
  rw [if_neg (fun q => q.1 rfl), bz_kc] at hfc
  have hst := bz_step a (c := c) hne hrk
  have hb0 : 0 < V 108 := by omega
  rw [← hb, ← hpv] at hst
  generalize V (12 * k + k) = pv at *
  generalize V (12 * r + k) = tr at *
  generalize V (12 * r + c) = x at *
  generalize V (12 * k + c) = fc at *
  generalize V 108 = b at *
  generalize bz_v a k r k = vr at *
  generalize bz_v a k r c = vx at *
  generalize ds_m a k k c = vf at *
  have etr : vr = -(tr : Int) := by omega
  subst etr
  -- Nat divisions that come out
  have fin : ∀ N : Nat, (N : Int) = (b : Int) * (bz_g n r c * bz_v a (k + 1) r c) → ((N / b : Nat) : Int) = bz_g n r c * bz_v a (k + 1) r c := by
    intro N hN
    have h0 : 0 ≤ bz_g n r c * bz_v a (k + 1) r c := ds_inn (d := b) (by omega) (by omega)
    obtain ⟨w, hw⟩ := Int.eq_ofNat_of_zero_le h0
    rw [hw] at hN ⊢
    have : N = b * w := by
      have : (N : Int) = ((b * w : Nat) : Int) := by rw [hN]; simp
      exact Int.ofNat.inj this
    rw [this, Nat.mul_div_cancel_left _ hb0]
  by_cases e : r = c
  · subst e
    have hm := mx_diag (r := r) hI1 (by omega) hr
    rw [if_pos rfl]
    have g1 : bz_g n r r = 1 := if_pos (Or.inl rfl)
    have g2 : bz_g n k r = -1 := if_neg (by omega)
    rw [g1, Int.one_mul] at hx
    rw [g2] at hfc
    rw [g1] at fin ⊢
    have ev : bz_v a (k + 1) r r = ds_m a (k + 1) r r := if_neg (by omega)
    rw [ev] at hst fin ⊢
    have ef : vf = -(fc : Int) := by omega
    subst ef
    rw [← hx] at hst
    have h1 : (b : Int) * ds_m a (k + 1) r r = (pv * x : Nat) - (tr * fc : Nat) := by
      rw [hst]; simp [Int.neg_mul_neg]
    have h2 : 0 ≤ (b : Int) * ds_m a (k + 1) r r := Int.mul_nonneg (by omega) hm
    have hle : tr * fc ≤ pv * x := by omega
    refine ⟨hb0, fun _ => hle, fin _ ?_⟩
    rw [Int.one_mul, h1]; omega
  · rw [if_neg e]
    refine ⟨hb0, fun q => absurd q e, fin _ ?_⟩
    by_cases e2 : n ≤ c
    · have g1 : bz_g n r c = 1 := if_pos (Or.inr e2)
      have g2 : bz_g n k c = 1 := if_pos (Or.inr e2)
      rw [g1, Int.one_mul] at hx
      rw [g2, Int.one_mul] at hfc
      rw [g1, Int.one_mul, hst, ← hx, ← hfc]
      simp [Int.neg_mul]
    · have g1 : bz_g n r c = -1 := if_neg (by omega)
      have g2 : bz_g n k c = -1 := if_neg (by omega)
      rw [g1] at hx
      rw [g2] at hfc
      have ex : vx = -(x : Int) := by omega
      have ef : vf = -(fc : Int) := by omega
      subst ex
      subst ef
      have e3 : (b : Int) * (-1 * bz_v a (k + 1) r c) = - ((b : Int) * bz_v a (k + 1) r c) := by grind
      rw [g1, e3, hst]
      simp [Int.mul_neg, Int.neg_mul]
      omega
/-- behind the pivot k -/
theorem bz_next {a : Nat → Nat → Int} {n rs k c : Nat} {V V' : Nat → Nat} (hk : k < n) (hE : bz_E a n rs k n c V) (h108 : V' 108 = V (12 * k + k)) (hs : ∀ i, i < 108 → V' i = V i) (hn : n ≤ 9) (hrs : rs ≤ 3) (hk1 : k + 1 < n + rs) : bz_E a n rs (k + 1) 0 0 V' := by
  obtain ⟨hb, hcol, hall⟩ := hE
  have hpv := hcol k hk
  rw [bz_kk, show bz_g n k k = 1 from if_pos (Or.inl rfl), Int.one_mul] at hpv
  have one : ∀ i, i < n → ∀ j, k < j → j < n + rs → (V' (12 * i + j) : Int) = bz_g n i j * bz_v a (k + 1) i j := by
    intro i hi j hj hjn
    rw [hs _ (by omega), hall i hi j hj hjn]
    by_cases e : i = k
    · subst e
      rw [if_neg (fun q => q.1 rfl)]
      unfold bz_v
      rw [if_neg (by omega), if_pos (by omega), ds_C_new]
    · rw [if_pos ⟨e, Or.inl hi⟩]
  refine ⟨by rw [h108]; exact hpv, fun i hi => one i hi (k + 1) (by omega) hk1, fun i hi j hj hjn => ?_⟩
  rw [if_neg (by omega)]
  exact one i hi j (by omega) hjn
