theorem wl_hi (X a j : Nat) : wl X (a + j) = wl (X / wB ^ a) j := by
  unfold wl
  rw [Nat.div_div_eq_div_mul, Nat.pow_add]
theorem wl_lo {R W a i : Nat} (hi : i < a) : wl (R % wB ^ a + W * wB ^ a) i = wl R i := by
  have e : wB ^ a = wB ^ (i + 1) * wB ^ (a - i - 1) := by
    rw [← Nat.pow_add]; congr 1; omega
  refine wl_congr ?_
  rw [e, Nat.mul_left_comm, Nat.add_mul_mod_self_left, Nat.mod_mul_right_mod]
theorem wj_div {R W a : Nat} : (R % wB ^ a + W * wB ^ a) / wB ^ a = W := by
  rw [Nat.add_mul_div_right _ _ (wB_pos a), Nat.div_eq_of_lt (Nat.mod_lt _ (wB_pos a)), Nat.zero_add]
theorem wm_st {Z X a : Nat} (h : ∀ i, i < a → wl Z i = wl X i) : wm Z X a = wr X := by
  funext j
  by_cases hj : j < a
  · rw [wm, if_pos hj, h j hj]
  · rw [wm, if_neg hj]
theorem wm_d (X Z k : Nat) : va_up (wm X Z (k + 1)) k (nI (wl Z k)) = wm X Z k := by
  funext j
  by_cases h : j = k
  · subst h; rw [va_up_self, wm, if_neg (by omega)]
  · rw [va_up_ne _ _ h, wm, wm]
    by_cases h2 : j < k
    · rw [if_pos h2, if_pos (by omega)]
    · rw [if_neg h2, if_neg (by omega)]
theorem nI_m1 (x : Int32) : x - 1 = x + (-1) := Int32.sub_eq_add_neg ..
section WH5
variable {l : Launch} {D : va_G} {ca : Nat → ClassId}
theorem c_Wh_shiftDown {m : jm_M} {h p X U s : Nat} (T : whT m h p) (hrow : m.2.2.1 p = wr X) (hU : m.2.2.1 h 1 = nI U) (hU13 : U ≤ 13) (hXU : X < wB ^ U) (hs : s < 30) : jm_C l D ca n_Wh_shiftDown [.ref h, .int (nI s)] m 0 0 (fun v m' => v = none ∧ m' = whS m h p (X / 2 ^ s)) := by
  refine jm_C_of (cd := cd_Wh_shiftDown) (ini := false) (by decide +kernel) ok_Wh_shiftDown (fun h => by cases h) (Nat.le_of_ble_eq_true rfl) ?_
  intro X0 hX
  have h2s : 2 ^ s < 1073741824 := Nat.pow_lt_pow_right (a := 2) (m := s) (n := 30) (by decide) hs
  have h2p : 0 < 2 ^ s := Nat.pow_pos (by decide)
  have hsh : lN 1 <<< ((nI s).toInt64 &&& 63) - 1 = lN (2 ^ s - 1) := by
    rw [wb_shl _ (by omega), Nat.one_mul]
    exact lN_sub (b := 1) (by omega)
  generalize hZe : X / 2 ^ s = Z
  have hZX : Z ≤ X := by rw [← hZe]; exact Nat.div_le_self _ _
  have hZU : Z < wB ^ U := by omega
  have hph := whT_ne T
  have hused : ∀ g, (uA m p g).2.2.1 h 1 = nI U := fun g => by
    show va_up m.2.2.1 p g h 1 = _
    rw [va_up_ne _ _ (Ne.symm hph)]; exact hU
  have fin : X0 57 [(0, .ref h)] [] (uA m p (wr Z)) 0 0 := by
    have key := c_Wh_dropZeros (l := l) (D := D) (ca := ca) (m := uA m p (wr Z)) (h := h) (p := p) (X := Z) (f := U) T (va_up_self _ _ _) (by omega) (by rw [Nat.min_eq_left hU13]; exact hZU)
    rw [← hused (wr Z)] at key
    refine jm_run hX [] 20 ?_
    refine And.intro T.1 (And.intro T.1 (And.intro (Nat.le_of_ble_eq_true rfl) (And.intro (Nat.le_of_ble_eq_true rfl) ⟨0, 0, _, Nat.le_refl _, Nat.le_refl _, key, fun v m' hq => ?_⟩)))
    obtain ⟨rfl, rfl⟩ := hq
    exact ⟨Nat.le_refl _, Nat.le_refl _, trivial, rfl, by rw [hZe]⟩
  have loop : ∀ k : Nat, k ≤ U → X0 10 [(0, .ref h), (1, .int (nI s)), (2, .long (lN (X / wB ^ k % 2 ^ s))), (4, .int (nI k + (-1)))] [] (uA m p (wm X Z k)) 0 0 := by
    intro k
    induction k with
    | zero =>
      intro _
      refine jm_run hX [(57, [0])] 10 ?_
      refine And.intro (fun h0 => ?_) (fun h0 => absurd (by decide) h0)
      rw [wm_0]
      exact fin
    | succ k ih =>
      intro hk
      have e4 : nI (k + 1) + (-1) = nI k := pk_m1 k
      rw [e4]
      have e0 : (nI k).toNatClampNeg = k := nI_c (by omega)
      have e1 : (uA m p (wm X Z (k + 1))).2.2.1 p (nI k).toNatClampNeg = nI (wl X k) := by
        rw [e0]; show va_up m.2.2.1 p _ p k = _; rw [va_up_self, wm, if_pos (by omega)]
      have hmv : X / wB ^ (k + 1) % 2 ^ s * wB + wl X k = X / wB ^ k % (2 ^ s * wB) := by
        rw [wl_split X k, Nat.mul_comm (2 ^ s) wB, Nat.mul_comm (X / wB ^ (k + 1)) wB, Nat.add_comm (wB * _), Nat.mod_mul, Nat.add_mul_mod_self_left, Nat.mod_eq_of_lt (wl_lt X k), Nat.add_mul_div_left _ _ (show 0 < wB by decide), Nat.div_eq_of_lt (wl_lt X k), Nat.zero_add]
        rw [Nat.mul_comm, Nat.add_comm]
      have hmlt : X / wB ^ (k + 1) % 2 ^ s * wB + wl X k < 2 ^ 64 := by
        have a1 : X / wB ^ (k + 1) % 2 ^ s < 2 ^ s := Nat.mod_lt _ h2p
        have a2 : wl X k < 1073741824 := wl_lt X k
        have a3 : X / wB ^ (k + 1) % 2 ^ s * wB ≤ 1073741824 * 1073741824 := Nat.mul_le_mul (by omega) (Nat.le_refl _)
        omega
      have hlong : (lN (X / wB ^ (k + 1) % 2 ^ s) <<< ((30 : Int32).toInt64 &&& 63)) + (nI (wl X k)).toInt64 = lN (X / wB ^ (k + 1) % 2 ^ s * wB + wl X k) := by
        have e30 : (30 : Int32) = nI 30 := rfl
        rw [e30, wb_shl _ (by decide), lm_l (wl_lt X k), lN_add]
      have hdig : ((lN (X / wB ^ (k + 1) % 2 ^ s * wB + wl X k)).toUInt64 >>> ((nI s).toInt64.toUInt64 &&& Int64.toUInt64 63)).toInt64.toInt32 = nI (wl Z k) := by
        rw [wb_shr hmlt (by omega), lN_i, hmv, Nat.mod_mul_right_div_self, ← hZe]
        unfold wl
        rw [Nat.div_div_eq_div_mul, Nat.div_div_eq_div_mul, Nat.mul_comm]
      have hcar : lN (X / wB ^ (k + 1) % 2 ^ s * wB + wl X k) &&& (lN 1 <<< ((nI s).toInt64 &&& 63) - 1) = lN (X / wB ^ k % 2 ^ s) := by
        rw [hsh, wb_mask hmlt (by omega), hmv, Nat.mod_mul_right_mod]
      have kk := ih (by omega)
      rw [← wm_d, ← uI_uA, ← hdig, ← hcar, ← hlong, ← e1] at kk
      refine jm_run hX [(10, [0, 1, 2, 4])] 40 ?_
      refine And.intro (fun h0 => absurd h0 (nI_pos (by omega))) (fun _ => ?_)
      refine And.intro T.1 ⟨some p, T.2.1, ?_⟩
      refine And.intro T.2.2.1 (And.intro (vin13 T.2.2.2 (by omega)) ?_)
      refine And.intro T.1 ⟨some p, T.2.1, ?_⟩
      refine And.intro T.2.2.1 (And.intro (vin13 T.2.2.2 (by omega)) ?_)
      rw [e0] at kk ⊢
      exact kk
  have k0 := loop U (Nat.le_refl _)
  rw [wm_end hXU hZU, show (fun j => nI (wl X j)) = m.2.2.1 p from hrow.symm, uA_id, Nat.div_eq_of_lt hXU, Nat.zero_mod, ← nI_m1, ← hU] at k0
  refine jm_run hX [(10, [0, 1, 2, 4])] 40 ?_
  exact And.intro T.1 k0
theorem c_Wh_becomeProduct {m : jm_M} {h p o1 q1 o2 q2 X Y : Nat} (T : whT m h p) (R : whR m p) (T1 : whT m o1 q1) (V1 : whV m o1 q1 X) (T2 : whT m o2 q2) (V2 : whV m o2 q2 Y) (hp1 : p ≠ q1) (hp2 : p ≠ q2) (ho1 : p ≠ o1) (ho2 : p ≠ o2) (hZ : X * Y < wB ^ 13) : jm_C l D ca n_Wh_becomeProduct [.ref h, .ref o1, .ref o2] m 0 0 (fun v m' => v = none ∧ m' = whS m h p (X * Y)) := by
  refine jm_C_of (cd := cd_Wh_becomeProduct) (ini := false) (by decide +kernel) ok_Wh_becomeProduct (fun h => by cases h) (Nat.le_of_ble_eq_true rfl) ?_
  intro X0 hX
  have hux := wu_le X
  have huy := wu_le Y
  have u1 : ∀ g, (uA m p g).2.2.1 o1 1 = nI (wu X) := fun g => by
    show va_up m.2.2.1 p g o1 1 = _
    rw [va_up_ne _ _ (Ne.symm ho1)]; exact V1.2.2
  have u2 : ∀ g, (uA m p g).2.2.1 o2 1 = nI (wu Y) := fun g => by
    show va_up m.2.2.1 p g o2 1 = _
    rw [va_up_ne _ _ (Ne.symm ho2)]; exact V2.2.2
  have r1 : ∀ g, (uA m p g).2.2.1 q1 = wr X := fun g => by
    show va_up m.2.2.1 p g q1 = _
    rw [va_up_ne _ _ (Ne.symm hp1)]; exact V1.2.1
  have r2 : ∀ g, (uA m p g).2.2.1 q2 = wr Y := fun g => by
    show va_up m.2.2.1 p g q2 = _
    rw [va_up_ne _ _ (Ne.symm hp2)]; exact V2.2.1
  have hXY : X * Y < wB ^ (min (wu X + wu Y) 13) := by
    rcases Nat.lt_or_ge (wu X + wu Y) 13 with g | g
    · rw [Nat.min_eq_left (by omega), Nat.pow_add]
      exact Nat.mul_lt_mul'' (wu_lt V1.1) (wu_lt V2.1)
    · rw [Nat.min_eq_right g]; exact hZ
  have fin : X0 112 [(0, .ref h), (1, .ref o1), (2, .ref o2)] [] (uA m p (wr (X * Y))) 0 0 := by
    have key := c_Wh_dropZeros (l := l) (D := D) (ca := ca) (m := uA m p (wr (X * Y))) (h := h) (p := p) (X := X * Y) (f := wu X + wu Y) T (va_up_self _ _ _) (by omega) hXY
    rw [← nI_add, ← u1 (wr (X * Y)), ← u2 (wr (X * Y))] at key
    refine jm_run hX [] 20 ?_
    refine And.intro T1.1 (And.intro T2.1 (And.intro T.1 (And.intro (Nat.le_of_ble_eq_true rfl) (And.intro (Nat.le_of_ble_eq_true rfl) ⟨0, 0, _, Nat.le_refl _, Nat.le_refl _, key, fun v m' hq => ?_⟩))))
    obtain ⟨rfl, rfl⟩ := hq
    exact ⟨Nat.le_refl _, Nat.le_refl _, trivial, rfl, rfl⟩
  -- the outer loop
  have outer : ∀ (d i : Nat), i + d = wu X → X0 10 [(0, .ref h), (1, .ref o1), (2, .ref o2), (3, .int (nI i))] [] (uA m p (wr (X % wB ^ i * Y))) 0 0 := by
    intro d
    induction d with
    | zero =>
      intro i hi
      refine jm_run hX [(112, [0, 1, 2])] 10 ?_
      refine And.intro T1.1 (And.intro (fun h0 => ?_) (fun h0 => ?_))
      · rw [show i = wu X by omega, Nat.mod_eq_of_lt (wu_lt V1.1)]
        exact fin
      · have h0 : ¬ (uA m p (wr (X % wB ^ i * Y))).2.2.1 o1 1 ≤ nI i := h0
        rw [u1] at h0
        exact absurd (nI_le (show wu X ≤ i by omega) (by omega)) h0
    | succ d ihd =>
      intro i hi
      have hi13 : i < 13 := by omega
      generalize hS : X % wB ^ i * Y = S
      generalize hS' : X % wB ^ (i + 1) * Y = S'
      have eS' : S' = S + wl X i * Y * wB ^ i := by
        rw [← hS', ← hS, wl_div X i, Nat.add_mul, Nat.mul_right_comm]
      have hS'13 : S' < wB ^ 13 := by
        rw [← hS']
        exact Nat.lt_of_le_of_lt (Nat.mul_le_mul_right _ (Nat.mod_le _ _)) hZ
      have hSS : S ≤ S' := by omega
      have hS13 : S < wB ^ 13 := by omega
      have hS'e : S' < wB ^ (i + wu Y + 1) := by
        rw [← hS', show i + wu Y + 1 = (i + 1) + wu Y by omega, Nat.pow_add wB (i + 1) (wu Y)]
        exact Nat.mul_lt_mul'' (Nat.mod_lt _ (wB_pos _)) (wu_lt V2.1)
      have eq1 : S' / wB ^ i = S / wB ^ i + wl X i * Y := by
        rw [eS', Nat.add_mul_div_right _ _ (wB_pos i)]
      have hlow : ∀ j, j < i → wl S' j = wl S j := by
        intro j hj
        have e : wB ^ i = wB ^ (j + 1) * wB ^ (i - j - 1) := by
          rw [← Nat.pow_add]; congr 1; omega
        refine wl_congr ?_
        rw [eS', e, Nat.mul_left_comm, Nat.add_mul_mod_self_left]
      generalize hf : wl X i = f at eS' eq1
      have hfB : f < 1073741824 := by rw [← hf]; exact wl_lt X i
      generalize hS1 : S / wB ^ i = S1 at eq1
      let P : Nat → Nat := fun j => S1 % wB ^ j + f * (Y % wB ^ j)
      have hP : ∀ j, P (j + 1) = P j + (wl S1 j + f * wl Y j) * wB ^ j := by
        intro j
        show S1 % wB ^ (j + 1) + f * (Y % wB ^ (j + 1)) = S1 % wB ^ j + f * (Y % wB ^ j) + (wl S1 j + f * wl Y j) * wB ^ j
        rw [wl_div S1 j, wl_div Y j, Nat.mul_add, Nat.add_mul, Nat.mul_assoc]
        omega
      have hPm : ∀ j, wl (P (j + 1)) j = wl S' (i + j) := by
        intro j
        rw [wl_hi, eq1]
        refine wl_congr ?_
        show (S1 % wB ^ (j + 1) + f * (Y % wB ^ (j + 1))) % wB ^ (j + 1) = (S1 + f * Y) % wB ^ (j + 1)
        rw [Nat.add_mod, Nat.mod_mod, Nat.mul_mod, Nat.mod_mod, ← Nat.mul_mod, ← Nat.add_mod]
      have hc : ∀ j, P j / wB ^ j ≤ 1073741824 := by
        intro j
        have h1 : S1 % wB ^ j < wB ^ j := Nat.mod_lt _ (wB_pos j)
        have h2 : Y % wB ^ j < wB ^ j := Nat.mod_lt _ (wB_pos j)
        have h3 : f * (Y % wB ^ j) ≤ f * wB ^ j := Nat.mul_le_mul_left _ (Nat.le_of_lt h2)
        have h4 : P j < wB ^ j * (f + 1) := by
          show S1 % wB ^ j + f * (Y % wB ^ j) < _
          rw [Nat.mul_add, Nat.mul_one, Nat.mul_comm (wB ^ j) f]; omega
        have := Nat.div_lt_of_lt_mul h4
        omega
      have step : ∀ j, ((nI (wl S (i + j))).toInt64 + lN f * (nI (wl Y j)).toInt64) + lN (P j / wB ^ j) = lN ((wl S1 j + f * wl Y j) + P j / wB ^ j) := by
        intro j
        rw [lm_l (wl_lt S (i + j)), lm_l (wl_lt Y j), lN_mul, lN_add, lN_add, wl_hi, hS1]
      have big : ∀ j, (wl S1 j + f * wl Y j) + P j / wB ^ j < 2 ^ 64 := by
        intro j
        have h1 : wl S1 j < 1073741824 := wl_lt S1 j
        have h2 : wl Y j < 1073741824 := wl_lt Y j
        have h3 := hc j
        have h4 : f * wl Y j ≤ 1073741824 * 1073741824 := Nat.mul_le_mul (Nat.le_of_lt hfB) (Nat.le_of_lt h2)
        omega
      -- the end of the inner loop
      have after : X0 106 [(0, .ref h), (1, .ref o1), (2, .ref o2), (3, .int (nI i))] [] (uA m p (wr S')) 0 0 := by
        refine jm_run hX [(10, [0, 1, 2, 3])] 10 ?_
        have := ihd (i + 1) (by omega)
        rw [hS', ← nI_1] at this
        exact this
      have inner : ∀ (e j : Nat), i + j + e = min (i + wu Y + 1) 13 → X0 33 [(0, .ref h), (1, .ref o1), (2, .ref o2), (3, .int (nI i)), (4, .long (lN f)), (6, .long (lN (P j / wB ^ j))), (8, .int (nI j))] [] (uA m p (wm S' S (i + j))) 0 0 := by
        intro e
        induction e with
        | zero =>
          intro j hj
          have hend : wm S' S (i + j) = wr S' := by
            rcases Nat.lt_or_ge (i + wu Y + 1) 13 with g | g
            · have e9 : i + j = i + wu Y + 1 := by omega
              rw [e9]
              exact wm_end hS'e (by omega)
            · have e9 : i + j = 13 := by omega
              rw [e9]
              exact wm_end hS'13 hS13
          rw [hend]
          refine jm_run hX [(106, [0, 1, 2, 3])] 20 ?_
          refine And.intro T2.1 (And.intro (fun h0 => after) (fun h0 => ?_))
          have h0 : ¬ (uA m p (wr S')).2.2.1 o2 1 < nI j := h0
          rw [u2] at h0
          have hj13 : i + j = 13 := by
            rcases Nat.lt_or_ge (wu Y) j with g | g
            · exact absurd (nI_lt g (by omega)) h0
            · omega
          refine And.intro (fun h1 => after) (fun h1 => ?_)
          have h1 : ¬ (13 : Int32) ≤ nI i + nI j := h1
          rw [nI_add, hj13] at h1
          exact absurd (by decide) h1
        | succ e ihe =>
          intro j hj
          have e0 : (nI i + nI j).toNatClampNeg = i + j := by rw [nI_add, nI_c (by omega)]
          have e1 : (uA m p (wm S' S (i + j))).2.2.1 p (nI i + nI j).toNatClampNeg = nI (wl S (i + j)) := by
            rw [e0]; show va_up m.2.2.1 p _ p (i + j) = _; rw [va_up_self, wm_at]
          have k := ihe (j + 1) (by omega)
          rw [← cy_next (t := fun j => wl S1 j + f * wl Y j) (hP j), show i + (j + 1) = (i + j) + 1 by omega, ← wm_s, ← hPm j, ← cy_dig (t := fun j => wl S1 j + f * wl Y j) (hP j), ← uI_uA, ← lm_mask (big j), ← lm_shr (big j), ← step j, ← e1, ← nI_1] at k
          have key := c_Wh_limb (l := l) (D := D) (ca := ca) (m := uA m p (wm S' S (i + j))) (h := o2) (p := q2) (i := j) T2 (r2 _) (by omega)
          refine jm_run hX [(33, [0, 1, 2, 3, 4, 6, 8])] 60 ?_
          refine And.intro T2.1 (And.intro (fun h0 => ?_) (fun _ => ?_))
          · have h0 : (uA m p (wm S' S (i + j))).2.2.1 o2 1 < nI j := h0
            rw [u2] at h0
            exact absurd h0 (nI_nlt (show j ≤ wu Y by omega) (by omega))
          refine And.intro (fun h1 => ?_) (fun _ => ?_)
          · have h1 : (13 : Int32) ≤ nI i + nI j := h1
            rw [nI_add] at h1
            exact absurd h1 (nI_ge (show i + j < 13 by omega) (by decide))
          refine And.intro T.1 ⟨some p, T.2.1, ?_⟩
          refine And.intro T.2.2.1 (And.intro ?_ ?_)
          · show vp_in (nI i + nI j) (m.2.1 p).2
            rw [nI_add]; exact vin13 T.2.2.2 (by omega)
          refine And.intro T2.1 (And.intro (Nat.le_of_ble_eq_true rfl) (And.intro (Nat.le_of_ble_eq_true rfl) ⟨0, 0, _, Nat.le_refl _, Nat.le_refl _, key, fun v m' hq => ?_⟩))
          obtain ⟨rfl, rfl⟩ := hq
          have ej : (if j < 13 then wr Y j else (0 : Int32)) = nI (wl Y j) := by
            by_cases g : j < 13
            · rw [if_pos g]
            · rw [if_neg g, wl_zero V2.1 (by omega)]; rfl
          rw [ej]
          refine And.intro T.1 ⟨some p, T.2.1, ?_⟩
          refine And.intro T.2.2.1 (And.intro ?_ ?_)
          · show vp_in (nI i + nI j) (m.2.1 p).2
            rw [nI_add]; exact vin13 T.2.2.2 (by omega)
          have k2 : X0 33 [(0, .ref h), (1, .ref o1), (2, .ref o2), (3, .int (nI i)), (4, .long (lN f)), (6, .long ((((uA m p (wm S' S (i + j))).2.2.1 p (nI i + nI j).toNatClampNeg).toInt64 + lN f * (nI (wl Y j)).toInt64 + lN (P j / wB ^ j)).toUInt64 >>> ((30 : Int32).toInt64.toUInt64 &&& Int64.toUInt64 63)).toInt64), (8, .int (nI j + 1))] [] (uI (uA m p (wm S' S (i + j))) p (nI i + nI j).toNatClampNeg ((((uA m p (wm S' S (i + j))).2.2.1 p (nI i + nI j).toNatClampNeg).toInt64 + lN f * (nI (wl Y j)).toInt64 + lN (P j / wB ^ j)) &&& 1073741823).toInt32) 0 0 := by
            rw [e0] at k ⊢
            exact k
          exact k2
      have k0 := inner (min (i + wu Y + 1) 13 - i) 0 (by omega)
      have h13e : min (i + wu Y + 1) 13 - i ≥ 0 := by omega
      rw [Nat.add_zero, wm_st hlow, show P 0 / wB ^ 0 = 0 by
        show (S1 % wB ^ 0 + f * (Y % wB ^ 0)) / wB ^ 0 = 0
        rw [Nat.pow_zero, Nat.mod_one, Nat.mod_one, Nat.mul_zero]] at k0
      have ef : ((uA m p (wr S)).2.2.1 q1 (nI i).toNatClampNeg).toInt64 = lN f := by
        rw [nI_c (by omega), r1]
        show (nI (wl X i)).toInt64 = _
        rw [lm_l (wl_lt X i), hf]
      rw [← ef] at k0
      refine jm_run hX [(33, [0, 1, 2, 3, 4, 6, 8])] 30 ?_
      refine And.intro T1.1 (And.intro (fun h0 => ?_) (fun _ => ?_))
      · have h0 : (uA m p (wr S)).2.2.1 o1 1 ≤ nI i := h0
        rw [u1] at h0
        exact absurd h0 (nI_ge (show i < wu X by omega) (by omega))
      refine And.intro T1.1 ⟨some q1, T1.2.1, ?_⟩
      refine And.intro T1.2.2.1 (And.intro (vin13 T1.2.2.2 (by omega)) ?_)
      exact k0
  have k0 := outer (wu X) 0 (by omega)
  rw [Nat.pow_zero, Nat.mod_one, Nat.zero_mul] at k0
  have hfill : (fun i => if i < (m.2.1 p).2 then (0 : Int32) else m.2.2.1 p i) = wr 0 := by
    funext i
    rw [T.2.2.2]
    have e0 : wr 0 i = 0 := by
      show nI (wl 0 i) = 0
      unfold wl
      rw [Nat.zero_div]; rfl
    rw [e0]
    by_cases hi : i < 13
    · rw [if_pos hi]
    · rw [if_neg hi, whR_hi R (by omega)]
  refine jm_run hX [(10, [0, 1, 2, 3])] 30 ?_
  refine And.intro T.1 ⟨some p, T.2.1, ?_⟩
  refine ⟨Nat.le_of_ble_eq_true rfl, Nat.le_of_ble_eq_true rfl, 0, 0, _, Nat.le_refl _, Nat.le_refl _, c_Ar_fill T.2.2.1 (by rw [T.2.2.2]; decide), fun v m' hq => ?_⟩
  obtain ⟨rfl, rfl⟩ := hq
  rw [hfill]
  exact k0
end WH5
