/-- the adjugate's columns, summed with a right side, are the solution -/
theorem fl_lead {b a : Nat → Nat → Int} {n : Nat} (ha : ∀ i q, q < n → a i q = b i q) {k : Nat} (hk : k ≤ n) : ds_d (fl_b b n) k = ds_d a k := ds_D_ex _ _ k _ _ fun r t _ ht => by
  rw [ha r t (by omega)]
  exact if_pos (by omega)
theorem adj_f {b a : Nat → Nat → Int} {n c : Nat} (ha : ∀ i q, q < n → a i q = b i q) (hne : ∀ i, 1 ≤ i → i ≤ n → ds_d a i ≠ 0) {j : Nat} (hj : j < n) : ds_S (fun i => ds_C (fl_b b n) n j (n + i) * a i c) n = ds_C a n j c := by
  have key := ds_d_inj a n (fun j => ds_S (fun i => ds_C (fl_b b n) n j (n + i) * a i c) n - ds_C a n j c) hne (fun r hr => by
    have e1 : ds_S (fun j => a r j * (ds_S (fun i => ds_C (fl_b b n) n j (n + i) * a i c) n - ds_C a n j c)) n = ds_S (fun j => ds_S (fun i => a r j * ds_C (fl_b b n) n j (n + i) * a i c) n) n - ds_S (fun j => a r j * ds_C a n j c) n := by
      rw [← ds_S_sub]
      refine ds_S_congr fun j _ => ?_
      rw [Int.mul_sub, ← ds_S_mul]
      congr 1
      exact ds_S_congr fun i _ => (Int.mul_assoc _ _ _).symm
    rw [e1, ds_S_swap, ds_C_solves a n r c hr]
    have e2 : ds_S (fun i => ds_S (fun j => a r j * ds_C (fl_b b n) n j (n + i) * a i c) n) n = ds_S (fun i => if i = r then a r c * ds_d a n else 0) n := ds_S_congr fun i hi => by
      have e3 : ds_S (fun j => a r j * ds_C (fl_b b n) n j (n + i) * a i c) n = a i c * ds_S (fun j => fl_b b n r j * ds_C (fl_b b n) n j (n + i)) n := by
        rw [← ds_S_mul]
        refine ds_S_congr fun j hj => ?_
        have : fl_b b n r j = a r j := by rw [ha r j hj]; exact if_pos hj
        rw [this]
        exact Int.mul_comm _ _
      rw [e3, ds_C_solves _ n r (n + i) hr, fl_lead ha (Nat.le_refl n)]
      have e4 : fl_b b n r (n + i) = if i = r then 1 else 0 := by
        unfold fl_b
        rw [if_neg (by omega)]
        by_cases w : i = r
        · rw [if_pos w, if_pos (by omega)]
        · rw [if_neg w, if_neg (by omega)]
      rw [e4]
      by_cases w : i = r
      · subst w; rw [if_pos rfl, if_pos rfl, Int.one_mul]
      · rw [if_neg w, if_neg w, Int.zero_mul, Int.mul_zero]
    rw [e2]
    have : ∀ (x : Int) (m : Nat), r < m → ds_S (fun s => if s = r then x else 0) m = x := by
      intro x m
      induction m with
      | zero => intro h; omega
      | succ m ih =>
        intro h
        show ds_S (fun s => if s = r then x else 0) m + (if m = r then x else 0) = x
        by_cases w : m = r
        · rw [if_pos w, ds_S_zero (fun s hs => if_neg (by omega))]; omega
        · rw [if_neg w, ih (by omega)]; omega
    rw [this _ n hr]; omega) j hj
  have : ds_S (fun i => ds_C (fl_b b n) n j (n + i) * a i c) n - ds_C a n j c = 0 := key
  omega
/-! Sizes of the reference's numbers. -/
theorem rwh_le {R : RD} (h : ROK R) {j k : Nat} (hj : j < 3) (hk : k < 3) : rwh R j k ≤ 248832 := by
  have hc := h.2.2.2.2.2.2.2.1 (3 * j + k) (by omega)
  have hK := h.1
  have com : ∀ k, k < 3 → rcom R j k ≤ 144 := fun k hk => by
    have b0 := (h.2.2.2.2.2.1 (2 * (3 * j + k)) (by omega)).1
    have b1 := (h.2.2.2.2.2.1 (2 * (3 * j + k) + 1) (by omega)).1
    exact Nat.mul_le_mul b0.2 b1.2
  have oth : roth R j k ≤ 144 := by
    unfold roth
    by_cases w : 0 < R.C (3 * j + k)
    · rw [if_pos w]; exact com _ (by omega)
    · rw [if_neg w]; decide
  exact Nat.mul_le_mul (Nat.mul_le_mul hc.2.1.2 (com k hk)) oth
/-- what goes out of a node is the whole of it -/
theorem wy_sum {d : LD} {R : RD} (hO : LOK d) (h : ROK R) (e : REL d R) {j k : Nat} (hj : j < R.M) (hk : k < R.K) : ds_nS (fun o => ds_nS (fun k2 => wy R j k o k2) R.K) (R.O j) = rwh R j k := by
  have eK : d.1.1 = R.K := by rw [e.1]
  have eM : d.1.2.1 = R.M := by rw [e.1]
  have hrow := row_lt hO.1.2 hO.2.1 (show j < d.1.2.1 by omega) (show k < d.1.1 by omega)
  have hbe := hO.2.2.2.2.2.2.2.1 _ hrow
  refine Nat.eq_of_mul_eq_mul_left (show 0 < 768398400 by decide) ?_
  rw [← ds_nS_lmul]
  have e1 : ds_nS (fun o => 768398400 * ds_nS (fun k2 => wy R j k o k2) R.K) (R.O j) = ds_nS (fun o => rwh R j k * xO d j k o) (R.O j) := ds_nS_congr fun o ho => by
    rw [← ds_nS_lmul]
    have e2 : ds_nS (fun k2 => 768398400 * wy R j k o k2) R.K = ds_nS (fun k2 => rwh R j k * cU d j k o k2) R.K := ds_nS_congr fun k2 hk2 => wy_eq h e hj hk ho hk2
    rw [e2, ds_nS_lmul, ← eK, cU_sum d (by omega) hbe]
    rfl
  rw [e1, ds_nS_lmul, ← e.2.1 j hj, xO_sum hO (e.shs h) (by omega) (by omega), Nat.mul_comm]
/-- fractions that are the same have the same parts -/
theorem pp_div {a b a' b' : Nat} (hb : 0 < b) (hb' : 0 < b') (h : a * b' = a' * b) : a / b = a' / b' ∧ a % b * b' = a' % b' * b := by
  have e : a / b = a' / b' := by
    have h1 : a * b' / (b * b') = a / b := Nat.mul_div_mul_right _ _ hb'
    have h2 : a' * b / (b' * b) = a' / b' := Nat.mul_div_mul_right _ _ hb
    rw [← h1, ← h2, h, Nat.mul_comm b b']
  refine ⟨e, ?_⟩
  have q1 := Nat.div_add_mod a b
  have q2 := Nat.div_add_mod a' b'
  rw [← q1, ← q2, ← e, Nat.add_mul, Nat.add_mul] at h
  have : b * (a / b) * b' = b' * (a / b) * b := by
    generalize a / b = x
    grind
  omega
theorem prem_x {a b a' b' : Nat} (hb : 0 < b) (hb' : 0 < b') (h : a * b' = a' * b) : ∀ z, prem a b z * b' = prem a' b' z * b
  | 0 => (pp_div hb hb' h).2
  | z + 1 => by
    have ih := prem_x hb hb' h z
    refine (pp_div (a := prem a b z * 1000000000) (a' := prem a' b' z * 1000000000) hb hb' ?_).2
    rw [Nat.mul_assoc, Nat.mul_comm 1000000000, ← Nat.mul_assoc, ih]
    generalize prem a' b' z = x
    grind
theorem ppart_x {a b a' b' : Nat} (hb : 0 < b) (hb' : 0 < b') (h : a * b' = a' * b) : ∀ z, ppart a b z = ppart a' b' z
  | 0 => (pp_div hb hb' h).1
  | z + 1 => by
    have ih := prem_x hb hb' h z
    refine (pp_div (a := prem a b z * 1000000000) (a' := prem a' b' z * 1000000000) hb hb' ?_).1
    rw [Nat.mul_assoc, Nat.mul_comm 1000000000, ← Nat.mul_assoc, ih]
    generalize prem a' b' z = x
    grind
