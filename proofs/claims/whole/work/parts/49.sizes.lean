/-! Sizes of what the elimination meets. -/
theorem ds_nP_pow {f : Nat → Nat} {c : Nat} : ∀ {k : Nat}, (∀ t, t < k → f t ≤ c) → ds_nP f k ≤ c ^ k
  | 0, _ => Nat.le_refl 1
  | k + 1, h => by
    rw [Nat.pow_succ]
    exact Nat.mul_le_mul (ds_nP_pow fun t ht => h t (by omega)) (h k (by omega))
theorem ds_D_rows {a a' : Nat → Nat → Int} : ∀ (k : Nat) (J : Nat → Nat), (∀ x, x < k → a x = a' x) → ds_D a k J = ds_D a' k J
  | 0, _, _ => rfl
  | k + 1, J, h => by
    refine ds_S_congr fun s _ => ?_
    rw [h k (by omega), ds_D_rows k (ds_E J s) fun x hx => h x (by omega)]
def bz_cs (a : Nat → Nat → Int) (n j : Nat) : Nat := ds_nS (fun i => (a i j).natAbs) n
theorem ds_nS_one {g : Nat → Nat} {k i n : Nat} (h1 : k ≤ i) (h2 : i < n) : ds_nS g k + g i ≤ ds_nS g n := by
  have e1 : ds_nS g k ≤ ds_nS g i := ds_nS_le h1
  have e2 : ds_nS g (i + 1) ≤ ds_nS g n := ds_nS_le h2
  have e3 : ds_nS g (i + 1) = ds_nS g i + g i := rfl
  omega
theorem bz_G1 (n : Nat) : (ds_G n).natAbs = 1 := by unfold ds_G; split <;> rfl
theorem bz_C_le {a : Nat → Nat → Int} {n k t j c : Nat} (hc : ∀ j, j < n → bz_cs a n j ≤ c) (hk : k ≤ n) (ht : t < k) : (ds_C a k t j).natAbs ≤ c ^ (k - 1) * bz_cs a n j := by
  obtain ⟨k, rfl⟩ : ∃ q, k = q + 1 := ⟨k - 1, by omega⟩
  unfold ds_C
  rw [Int.natAbs_mul, bz_G1, Nat.one_mul]
  refine Nat.le_trans (ds_D_le a (k + 1) _) ?_
  show ds_nP _ k * _ ≤ c ^ k * _
  refine Nat.mul_le_mul (ds_nP_pow fun u hu => ?_) ?_
  · have hJ : ds_E (ds_J (k + 1) j) t u < n := by
      unfold ds_E ds_J
      by_cases q : u < t
      · rw [if_pos q, if_pos (by omega)]; omega
      · rw [if_neg q, if_pos (by omega)]; omega
    exact Nat.le_trans (ds_nS_le hk) (hc _ hJ)
  · have hJ : ds_E (ds_J (k + 1) j) t k = j := by
      unfold ds_E ds_J
      rw [if_neg (by omega), if_neg (by omega)]
    show ds_nS (fun i => (a i (ds_E (ds_J (k + 1) j) t k)).natAbs) (k + 1) ≤ _
    rw [hJ]
    exact ds_nS_le hk
theorem bz_m_le {a : Nat → Nat → Int} {n k i j c : Nat} (hc : ∀ j, j < n → bz_cs a n j ≤ c) (hk : k ≤ i) (hi : i < n) : (ds_m a k i j).natAbs ≤ c ^ k * bz_cs a n j := by
  have e : ds_m a k i j = ds_D (fun x => if x = k then a i else a x) (k + 1) (ds_J k j) := by
    show ds_S _ _ = ds_S _ _
    refine ds_S_congr fun s _ => ?_
    show _ = ds_G (k + s) * (if k = k then a i else a k) (ds_J k j s) * _
    rw [if_pos rfl, ds_D_rows k (ds_E (ds_J k j) s) (a' := a) (fun x hx => if_neg (by omega))]
  rw [e]
  refine Nat.le_trans (ds_D_le _ (k + 1) _) ?_
  have hcol : ∀ q, ds_nS (fun x => ((if x = k then a i else a x) q).natAbs) (k + 1) ≤ bz_cs a n q := by
    intro q
    show ds_nS (fun x => ((if x = k then a i else a x) q).natAbs) k + ((if k = k then a i else a k) q).natAbs ≤ _
    rw [if_pos rfl, ds_nS_congr (g := fun x => (a x q).natAbs) (fun x hx => by rw [if_neg (by omega)])]
    exact ds_nS_one (g := fun x => (a x q).natAbs) hk hi
  show ds_nP _ k * _ ≤ _
  refine Nat.mul_le_mul (ds_nP_pow fun u hu => ?_) ?_
  · have hJ : ds_J k j u < n := by unfold ds_J; rw [if_pos hu]; omega
    exact Nat.le_trans (hcol _) (hc _ hJ)
  · have hJ : ds_J k j k = j := by unfold ds_J; rw [if_neg (by omega)]
    show ds_nS (fun x => ((if x = k then a i else a x) (ds_J k j k)).natAbs) (k + 1) ≤ _
    rw [hJ]; exact hcol j
theorem bz_d_le {a : Nat → Nat → Int} {n k c : Nat} (hc : ∀ j, j < n → bz_cs a n j ≤ c) (hk : k ≤ n) : (ds_d a k).natAbs ≤ c ^ k :=
  Nat.le_trans (ds_D_le a k _) (ds_nP_pow fun u hu => Nat.le_trans (ds_nS_le hk) (hc u (by omega)))
abbrev bzBig : Nat := 166320 ^ 9 * 9000000
theorem bzBig_ok : 2 * (bzBig * bzBig) < wB ^ 12 := by decide
theorem bz_pow {k : Nat} (h : k ≤ 9) : 166320 ^ k ≤ 166320 ^ 9 := Nat.pow_le_pow_right (by decide) h
theorem bz_B_of {a : Nat → Nat → Int} {n rs : Nat} (hn : n ≤ 9) (hc : ∀ j, j < n → bz_cs a n j ≤ 166320) (hr : ∀ j, n ≤ j → j < n + rs → bz_cs a n j ≤ 9000000) : bz_B a n rs bzBig := by
  refine ⟨fun k hk => ?_, fun k hk i hi j hj hjn => ?_⟩
  · refine Nat.le_trans (bz_d_le hc hk) (Nat.le_trans (bz_pow (by omega)) (Nat.le_mul_of_pos_right _ (by decide)))
  · have hcs : bz_cs a n j ≤ 9000000 := by
      rcases Nat.lt_or_ge j n with q | q
      · exact Nat.le_trans (hc j q) (by decide)
      · exact hr j q hjn
    unfold bz_v
    by_cases q : i < k
    · rw [if_pos q]
      exact Nat.le_trans (bz_C_le hc hk q) (Nat.mul_le_mul (bz_pow (by omega)) hcs)
    · rw [if_neg q]
      exact Nat.le_trans (bz_m_le hc (by omega) hi) (Nat.mul_le_mul (bz_pow (by omega)) hcs)
/-! The matrix as it is read; right sides f. -/
def am (F : Nat → Nat → Nat) (n : Nat) (f : Nat → Nat → Nat) (i j : Nat) : Int := if j < n then (if i = j then (F 15 i : Int) - (F (17 + i) i : Int) else -(F (17 + i) j : Int)) else (f i j : Int)
/-- what is known of rows that were read, of a line that stands -/
def FG (n : Nat) (F : Nat → Nat → Nat) : Prop := (∀ f, mx_Good (am F n f) n) ∧ (∀ t, fk t → ∀ i, i < n → F t i ≤ 83160) ∧ ∀ j, j < n → ds_nS (fun i => F (17 + i) j) n ≤ F 15 j
theorem ds_nS_add (f g : Nat → Nat) : ∀ n : Nat, ds_nS (fun i => f i + g i) n = ds_nS f n + ds_nS g n
  | 0 => rfl
  | n + 1 => by
    show ds_nS (fun i => f i + g i) n + (f n + g n) = (ds_nS f n + f n) + (ds_nS g n + g n)
    rw [ds_nS_add f g n]; omega
theorem ds_nS_ite (c j : Nat) : ∀ n : Nat, ds_nS (fun i => if i = j then c else 0) n ≤ c
  | 0 => Nat.zero_le _
  | n + 1 => by
    show ds_nS (fun i => if i = j then c else 0) n + (if n = j then c else 0) ≤ c
    by_cases e : n = j
    · subst e
      rw [if_pos rfl]
      have : ds_nS (fun i => if i = n then c else 0) n = ds_nS (fun _ => 0) n := ds_nS_congr (fun i hi => if_neg (by omega))
      rw [this]
      have z : ∀ k, ds_nS (fun _ => 0) k = 0 := fun k => by
        induction k with
        | zero => rfl
        | succ k ih => show ds_nS (fun _ => 0) k + 0 = 0; omega
      rw [z]; omega
    · rw [if_neg e]; exact ds_nS_ite c j n
theorem am_cs {F : Nat → Nat → Nat} {n : Nat} {f : Nat → Nat → Nat} (h : FG n F) (hn : n ≤ 9) {j : Nat} (hj : j < n) : bz_cs (am F n f) n j ≤ 166320 := by
  have h1 := h.2.2 j hj
  have h2 := h.2.1 15 (Or.inl rfl) j hj
  have h3 : bz_cs (am F n f) n j ≤ ds_nS (fun i => F (17 + i) j + (if i = j then F 15 j else 0)) n := ds_nS_mono fun i hi => by
    unfold am
    rw [if_pos hj]
    by_cases e : i = j
    · subst e; rw [if_pos rfl, if_pos rfl]; omega
    · rw [if_neg e, if_neg e]; omega
  rw [ds_nS_add] at h3
  have h4 := ds_nS_ite (F 15 j) j n
  omega
theorem am_rhs {F : Nat → Nat → Nat} {n j : Nat} {f : Nat → Nat → Nat} (hj : n ≤ j) : bz_cs (am F n f) n j = ds_nS (fun i => f i j) n := by
  refine ds_nS_congr fun i _ => ?_
  show (am F n f i j).natAbs = f i j
  unfold am
  rw [if_neg (by omega)]
  exact Int.natAbs_natCast _
/-- solutions: not below 0, of this size -/
theorem am_C {F : Nat → Nat → Nat} {n i j R : Nat} {f : Nat → Nat → Nat} (h : FG n F) (hn : n ≤ 9) (hi : i < n) (hj : n ≤ j) (hR : ds_nS (fun i => f i j) n ≤ R) : 0 ≤ ds_C (am F n f) n i j ∧ (ds_C (am F n f) n i j).natAbs ≤ 166320 ^ 8 * R := by
  refine ⟨(mx_Rhs (h.1 f) (fun i hi => ?_) n (Nat.le_refl n)).2 i hi, ?_⟩
  · unfold am; rw [if_neg (by omega)]; omega
  · refine Nat.le_trans (bz_C_le (fun j hj => am_cs h hn hj) (Nat.le_refl n) hi) ?_
    rw [am_rhs hj]
    exact Nat.mul_le_mul (Nat.pow_le_pow_right (by decide) (by omega)) hR
theorem am_d {F : Nat → Nat → Nat} {n : Nat} {f : Nat → Nat → Nat} (h : FG n F) (hn : n ≤ 9) : 0 < ds_d (am F n f) n ∧ (ds_d (am F n f) n).natAbs ≤ 166320 ^ 9 :=
  ⟨(mx_Inv_all (h.1 f) n (Nat.le_refl n)).1 n (Nat.le_refl n), Nat.le_trans (bz_d_le (fun j hj => am_cs h hn hj) (Nat.le_refl n)) (bz_pow hn)⟩
