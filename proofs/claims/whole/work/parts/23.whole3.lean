theorem wl_split (X k : Nat) : X / wB ^ k = X / wB ^ (k + 1) * wB + wl X k := by
  rw [Nat.pow_succ, ← Nat.div_div_eq_div_mul]
  unfold wl
  rw [Nat.mul_comm]
  exact (Nat.div_add_mod _ _).symm
theorem wl_less {X Y k : Nat} (h : X / wB ^ (k + 1) = Y / wB ^ (k + 1)) (h2 : wl X k < wl Y k) : X < Y := by
  have h3 : X / wB ^ k < Y / wB ^ k := by
    rw [wl_split X k, wl_split Y k, h]; omega
  rcases Nat.lt_or_ge X Y with q | q
  · exact q
  · exact absurd (Nat.div_le_div_right (c := wB ^ k) q) (by omega)
/-- what a comparison answers -/
def cmpI (X Y : Nat) : Int32 := if X < Y then -1 else if X = Y then 0 else 1
section WH3
variable {l : Launch} {D : va_G} {ca : Nat → ClassId}
theorem c_Wh_compareWith {m : jm_M} {h p o q X Y : Nat} (T : whT m h p) (V : whV m h p X) (To : whT m o q) (Vo : whV m o q Y) : jm_C l D ca n_Wh_compareWith [.ref h, .ref o] m 0 0 (fun v m' => m' = m ∧ v = some (.int (cmpI X Y))) := by
  refine jm_C_of (cd := cd_Wh_compareWith) (ini := false) (by decide +kernel) ok_Wh_compareWith (fun h => by cases h) (Nat.le_of_ble_eq_true rfl) ?_
  intro X0 hX
  have loop : ∀ k : Nat, k ≤ 13 → X / wB ^ k = Y / wB ^ k → X0 3 [(0, .ref h), (1, .ref o), (2, .int (nI k + (-1)))] [] m 0 0 := by
    intro k
    induction k with
    | zero =>
      intro _ hk
      have e : X = Y := by simpa using hk
      refine jm_run hX [] 20 ?_
      refine And.intro (fun h0 => ?_) (fun h0 => absurd (by decide) h0)
      refine ⟨Nat.le_refl _, Nat.le_refl _, trivial, rfl, ?_⟩
      unfold cmpI
      rw [if_neg (by omega), if_pos e]
    | succ k ih =>
      intro hk he
      have e1 : nI (k + 1) + (-1) = nI k := pk_m1 k
      rw [e1]
      have ex : m.2.2.1 p (nI k).toNatClampNeg = nI (wl X k) := by rw [nI_c (by omega), V.2.1]
      have ey : m.2.2.1 q (nI k).toNatClampNeg = nI (wl Y k) := by rw [nI_c (by omega), Vo.2.1]
      refine jm_run hX [(3, [0, 1, 2])] 30 ?_
      refine And.intro (fun h0 => absurd h0 (nI_pos (by omega))) (fun _ => ?_)
      refine And.intro T.1 ⟨some p, T.2.1, ?_⟩
      refine And.intro T.2.2.1 (And.intro (vin13 T.2.2.2 (by omega)) ?_)
      refine And.intro To.1 ⟨some q, To.2.1, ?_⟩
      refine And.intro To.2.2.1 (And.intro (vin13 To.2.2.2 (by omega)) ?_)
      refine And.intro (fun h0 => ?_) (fun h0 => ?_)
      · have h0 : m.2.2.1 p (nI k).toNatClampNeg = m.2.2.1 q (nI k).toNatClampNeg := h0
        rw [ex, ey, nI_eq (wl_31 X k) (wl_31 Y k)] at h0
        exact ih (by omega) (by rw [wl_split X k, wl_split Y k, he, h0])
      · have h0 : ¬ m.2.2.1 p (nI k).toNatClampNeg = m.2.2.1 q (nI k).toNatClampNeg := h0
        rw [ex, ey, nI_eq (wl_31 X k) (wl_31 Y k)] at h0
        refine And.intro T.1 ⟨some p, T.2.1, ?_⟩
        refine And.intro T.2.2.1 (And.intro (vin13 T.2.2.2 (by omega)) ?_)
        refine And.intro To.1 ⟨some q, To.2.1, ?_⟩
        refine And.intro To.2.2.1 (And.intro (vin13 To.2.2.2 (by omega)) ?_)
        refine And.intro (fun h1 => ?_) (fun h1 => ?_)
        · have h1 : m.2.2.1 q (nI k).toNatClampNeg ≤ m.2.2.1 p (nI k).toNatClampNeg := h1
          rw [ex, ey, nI_leI (wl_31 Y k) (wl_31 X k)] at h1
          have := wl_less he.symm (show wl Y k < wl X k by omega)
          refine ⟨Nat.le_refl _, Nat.le_refl _, trivial, rfl, ?_⟩
          unfold cmpI
          rw [if_neg (by omega), if_neg (by omega)]
        · have h1 : ¬ m.2.2.1 q (nI k).toNatClampNeg ≤ m.2.2.1 p (nI k).toNatClampNeg := h1
          rw [ex, ey, nI_leI (wl_31 Y k) (wl_31 X k)] at h1
          have := wl_less he (show wl X k < wl Y k by omega)
          refine ⟨Nat.le_refl _, Nat.le_refl _, trivial, rfl, ?_⟩
          unfold cmpI
          rw [if_pos this]
  refine jm_run hX [(3, [0, 1, 2])] 20 ?_
  have := loop 13 (Nat.le_refl _) (by rw [Nat.div_eq_of_lt V.1, Nat.div_eq_of_lt Vo.1])
  rw [show nI 13 + (-1) = nI 12 from pk_m1 12] at this
  exact this
/-- X + F times Y, where it keeps below wB ^ 13 -/
theorem c_Wh_addTimes {m : jm_M} {h p o q X Y F : Nat} (T : whT m h p) (V : whV m h p X) (To : whT m o q) (Vo : whV m o q Y) (hpq : p ≠ q) (hF : F < wB) (hZ : X + F * Y < wB ^ 13) : jm_C l D ca n_Wh_addTimes [.ref h, .ref o, .long (lN F)] m 0 0 (fun v m' => v = none ∧ m' = whS m h p (X + F * Y)) := by
  refine jm_C_of (cd := cd_Wh_addTimes) (ini := false) (by decide +kernel) ok_Wh_addTimes (fun h => by cases h) (Nat.le_of_ble_eq_true rfl) ?_
  intro X0 hX
  have hux := wu_le X
  have huy := wu_le Y
  generalize hE : min (max (wu X) (wu Y) + 2) 13 = E
  have hE13 : E ≤ 13 := by omega
  have hXm : X < wB ^ (max (wu X) (wu Y)) := Nat.lt_of_lt_of_le (wu_lt V.1) (Nat.pow_le_pow_right (by decide) (by omega))
  have hYm : Y < wB ^ (max (wu X) (wu Y)) := Nat.lt_of_lt_of_le (wu_lt Vo.1) (Nat.pow_le_pow_right (by decide) (by omega))
  have hXE : X < wB ^ E := by
    rcases Nat.lt_or_ge (max (wu X) (wu Y) + 2) 13 with g | g
    · exact Nat.lt_of_lt_of_le hXm (Nat.pow_le_pow_right (by decide) (by omega))
    · rw [show E = 13 by omega]; exact V.1
  have hZE : X + F * Y < wB ^ E := by
    rcases Nat.lt_or_ge (max (wu X) (wu Y) + 2) 13 with g | g
    · rw [show E = max (wu X) (wu Y) + 2 by omega, Nat.pow_add]
      generalize wB ^ (max (wu X) (wu Y)) = M at hXm hYm
      have h1 : F * Y ≤ wB * M := Nat.mul_le_mul (Nat.le_of_lt hF) (Nat.le_of_lt hYm)
      have h2 : wB ^ 2 = 1152921504606846976 := by decide
      rw [h2]
      have h3 : wB * M = 1073741824 * M := rfl
      omega
    · rw [show E = 13 by omega]; exact hZ
  -- the carry
  let P : Nat → Nat := fun i => X % wB ^ i + F * (Y % wB ^ i)
  have hP : ∀ i, P (i + 1) = P i + (wl X i + F * wl Y i) * wB ^ i := by
    intro i
    show X % wB ^ (i + 1) + F * (Y % wB ^ (i + 1)) = X % wB ^ i + F * (Y % wB ^ i) + (wl X i + F * wl Y i) * wB ^ i
    rw [wl_div X i, wl_div Y i, Nat.mul_add, Nat.add_mul, Nat.mul_assoc]
    omega
  have hPm : ∀ i, wl (P (i + 1)) i = wl (X + F * Y) i := by
    intro i
    refine wl_congr ?_
    show (X % wB ^ (i + 1) + F * (Y % wB ^ (i + 1))) % wB ^ (i + 1) = (X + F * Y) % wB ^ (i + 1)
    rw [Nat.add_mod, Nat.mod_mod, Nat.mul_mod, Nat.mod_mod, ← Nat.mul_mod, ← Nat.add_mod]
  have hc : ∀ i, P i / wB ^ i ≤ wB := by
    intro i
    have h1 : X % wB ^ i < wB ^ i := Nat.mod_lt _ (wB_pos i)
    have h2 : Y % wB ^ i < wB ^ i := Nat.mod_lt _ (wB_pos i)
    have h3 : F * (Y % wB ^ i) ≤ F * wB ^ i := Nat.mul_le_mul_left _ (Nat.le_of_lt h2)
    have h4 : P i < wB ^ i * (F + 1) := by
      show X % wB ^ i + F * (Y % wB ^ i) < _
      rw [Nat.mul_add, Nat.mul_one, Nat.mul_comm (wB ^ i) F]; omega
    have := Nat.div_lt_of_lt_mul h4
    omega
  have step : ∀ i, ((nI (wl X i)).toInt64 + (nI (wl Y i)).toInt64 * lN F) + lN (P i / wB ^ i) = lN ((wl X i + F * wl Y i) + P i / wB ^ i) := by
    intro i
    rw [lm_l (wl_lt X i), lm_l (wl_lt Y i), lN_mul, lN_add, lN_add, Nat.mul_comm (wl Y i) F]
  have big : ∀ i, (wl X i + F * wl Y i) + P i / wB ^ i < 2 ^ 64 := by
    intro i
    have h1 : wl X i < 1073741824 := wl_lt X i
    have h2 : wl Y i < 1073741824 := wl_lt Y i
    have h3 : P i / wB ^ i ≤ 1073741824 := hc i
    have h4 : F * wl Y i ≤ 1073741824 * 1073741824 := Nat.mul_le_mul (Nat.le_of_lt hF) (Nat.le_of_lt h2)
    omega
  have fin : X0 84 [(0, .ref h), (6, .int (nI E))] [] (uA m p (wr (X + F * Y))) 0 0 := by
    refine jm_run hX [] 20 ?_
    refine And.intro T.1 (And.intro (Nat.le_of_ble_eq_true rfl) (And.intro (Nat.le_of_ble_eq_true rfl) ⟨0, 0, _, Nat.le_refl _, Nat.le_refl _, c_Wh_dropZeros (m := uA m p (wr (X + F * Y))) (p := p) (X := X + F * Y) (f := E) T (va_up_self _ _ _) (by omega) (by rw [Nat.min_eq_left hE13]; exact hZE), fun v m' hq => ?_⟩))
    obtain ⟨rfl, rfl⟩ := hq
    exact ⟨Nat.le_refl _, Nat.le_refl _, trivial, rfl, rfl⟩
  have loop : ∀ (d i : Nat), i + d = E → X0 26 [(0, .ref h), (1, .ref o), (2, .long (lN F)), (4, .long (lN (P i / wB ^ i))), (6, .int (nI E)), (7, .int (nI i))] [] (uA m p (wm (X + F * Y) X i)) 0 0 := by
    intro d
    induction d with
    | zero =>
      intro i hi
      refine jm_run hX [(84, [0, 6])] 10 ?_
      refine And.intro (fun h0 => ?_) (fun h0 => absurd (nI_le (show E ≤ i by omega) (by omega)) h0)
      rw [show i = E by omega, wm_end hZE hXE]
      exact fin
    | succ d ih =>
      intro i hi
      have e0 : (nI i).toNatClampNeg = i := nI_c (by omega)
      have e1 : (uA m p (wm (X + F * Y) X i)).2.2.1 p (nI i).toNatClampNeg = nI (wl X i) := by
        rw [e0]; show va_up m.2.2.1 p _ p i = _; rw [va_up_self, wm_at]
      have e2 : (uA m p (wm (X + F * Y) X i)).2.2.1 q (nI i).toNatClampNeg = nI (wl Y i) := by
        rw [e0]; show va_up m.2.2.1 p _ q i = _; rw [va_up_ne _ _ (Ne.symm hpq), Vo.2.1]
      have k := ih (i + 1) (by omega)
      rw [← cy_next (t := fun i => wl X i + F * wl Y i) (hP i), ← wm_s, ← hPm i, ← cy_dig (t := fun i => wl X i + F * wl Y i) (hP i), ← uI_uA, ← lm_mask (big i), ← lm_shr (big i), ← step i, ← e1, ← e2, ← nI_1] at k
      refine jm_run hX [(26, [0, 1, 2, 4, 6, 7])] 40 ?_
      refine And.intro (fun h0 => absurd h0 (nI_ge (show i < E by omega) (by omega))) (fun _ => ?_)
      refine And.intro T.1 ⟨some p, T.2.1, ?_⟩
      refine And.intro T.2.2.1 (And.intro (vin13 T.2.2.2 (by omega)) ?_)
      refine And.intro To.1 ⟨some q, To.2.1, ?_⟩
      refine And.intro To.2.2.1 (And.intro (vin13 To.2.2.2 (by omega)) ?_)
      refine And.intro T.1 ⟨some p, T.2.1, ?_⟩
      refine And.intro T.2.2.1 (And.intro (vin13 T.2.2.2 (by omega)) ?_)
      rw [e0] at k ⊢
      exact k
  have k0 := loop E 0 (by omega)
  rw [wm_0, show (fun j => nI (wl X j)) = m.2.2.1 p from V.2.1.symm, uA_id, show P 0 / wB ^ 0 = 0 by
    show (X % wB ^ 0 + F * (Y % wB ^ 0)) / wB ^ 0 = 0
    rw [Nat.pow_zero, Nat.mod_one, Nat.mod_one, Nat.mul_zero], ← hE, ← nI_min (by omega) (by omega), ← nI_add, ← nI_max (by omega) (by omega), ← V.2.2, ← Vo.2.2] at k0
  refine jm_run hX [(26, [0, 1, 2, 4, 6, 7])] 40 ?_
  refine And.intro T.1 (And.intro To.1 ?_)
  refine ⟨Nat.le_of_ble_eq_true rfl, Nat.le_refl _, Nat.le_refl _, ?_⟩
  refine ⟨Nat.le_of_ble_eq_true rfl, Nat.le_refl _, Nat.le_refl _, ?_⟩
  exact k0
end WH3
