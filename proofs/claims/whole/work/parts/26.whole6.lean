/-! R less F times S, limb by limb, from the limb a on: what is owed, and the limbs. -/
def sO (F S R : Nat) : Nat → Nat
  | 0 => 0
  | j + 1 => (F * wl S j + sO F S R j + 1073741823 - wl R j) / 1073741824
def sW (F S R j : Nat) : Nat := wl R j + sO F S R (j + 1) * 1073741824 - (F * wl S j + sO F S R j)
theorem sO_le {F S R : Nat} (hF : F < wB) : ∀ j, sO F S R j ≤ 1073741824
  | 0 => by show 0 ≤ _; omega
  | j + 1 => by
    have h1 := sO_le (S := S) (R := R) hF j
    have h2 : wl S j < 1073741824 := wl_lt S j
    have h4 : F * wl S j ≤ 1073741823 * 1073741823 := Nat.mul_le_mul (Nat.le_of_lt_succ hF) (by omega)
    show (F * wl S j + sO F S R j + 1073741823 - wl R j) / 1073741824 ≤ _
    omega
theorem sW_lt (F S R j : Nat) : sW F S R j < wB := by
  have h3 : wl R j < 1073741824 := wl_lt R j
  show wl R j + (F * wl S j + sO F S R j + 1073741823 - wl R j) / 1073741824 * 1073741824 - (F * wl S j + sO F S R j) < 1073741824
  omega
theorem sW_eq (F S R j : Nat) : sW F S R j + (F * wl S j + sO F S R j) = wl R j + sO F S R (j + 1) * 1073741824 := by
  have h3 : wl R j < 1073741824 := wl_lt R j
  show wl R j + (F * wl S j + sO F S R j + 1073741823 - wl R j) / 1073741824 * 1073741824 - (F * wl S j + sO F S R j) + (F * wl S j + sO F S R j) = wl R j + (F * wl S j + sO F S R j + 1073741823 - wl R j) / 1073741824 * 1073741824
  omega
theorem sW_sum (F S R : Nat) : ∀ n, wv (sW F S R) n + F * (S % wB ^ n) = R % wB ^ n + sO F S R n * wB ^ n
  | 0 => by
    show 0 + F * (S % 1) = R % 1 + 0 * 1
    rw [Nat.mod_one, Nat.mod_one]; omega
  | n + 1 => by
    have ih := sW_sum F S R n
    have he := sW_eq F S R n
    have hm : (sW F S R n + (F * wl S n + sO F S R n)) * wB ^ n = (wl R n + sO F S R (n + 1) * 1073741824) * wB ^ n := by rw [he]
    have e1 : sO F S R (n + 1) * wB ^ (n + 1) = sO F S R (n + 1) * 1073741824 * wB ^ n := by
      rw [Nat.pow_succ, Nat.mul_comm (wB ^ n), Nat.mul_assoc]
    show wv (sW F S R) n + sW F S R n * wB ^ n + F * (S % wB ^ (n + 1)) = R % wB ^ (n + 1) + sO F S R (n + 1) * wB ^ (n + 1)
    rw [wl_div S n, wl_div R n, e1, Nat.mul_add, ← Nat.mul_assoc]
    rw [Nat.add_mul, Nat.add_mul, Nat.add_mul] at hm
    omega
section WH6
variable {l : Launch} {D : va_G} {ca : Nat → ClassId}
theorem c_Wh_subtractTimes {m : jm_M} {h p o q R S F a n : Nat} (T : whT m h p) (hrow : m.2.2.1 p = wr R) (hR : R < wB ^ 13) (To : whT m o q) (Vo : whV m o q S) (hpq : p ≠ q) (hpo : p ≠ o) (hF : F < wB) (hn : n = min (wu S + 1) (13 - a)) (ha : a + wu S ≤ 13) (hRn : R / wB ^ a < wB ^ n) : jm_C l D ca n_Wh_subtractTimes [.ref h, .ref o, .long (lN F), .int (nI a)] m 0 0 (fun v m' => ∃ W ow, W + F * S = R / wB ^ a + ow * wB ^ n ∧ W < wB ^ n ∧ ow ≤ 1073741824 ∧ v = some (.int (nI ow)) ∧ m' = uA m p (wr (R % wB ^ a + W * wB ^ a))) := by
  refine jm_C_of (cd := cd_Wh_subtractTimes) (ini := false) (by decide +kernel) ok_Wh_subtractTimes (fun h => by cases h) (Nat.le_of_ble_eq_true rfl) ?_
  intro X0 hX
  have hus := wu_le S
  have hSn : S < wB ^ n := Nat.lt_of_lt_of_le (wu_lt Vo.1) (Nat.pow_le_pow_right (by decide) (by omega))
  generalize hR1 : R / wB ^ a = R1 at hRn
  have hsum := sW_sum F S R1 n
  rw [Nat.mod_eq_of_lt hSn, Nat.mod_eq_of_lt hRn] at hsum
  have hWlt : wv (sW F S R1) n < wB ^ n := wv_lt (fun i _ => sW_lt F S R1 i)
  generalize hR' : R % wB ^ a + wv (sW F S R1) n * wB ^ a = R'
  have hR'a : R' / wB ^ a = wv (sW F S R1) n := by rw [← hR', wj_div]
  have hlow : ∀ i, i < a → wl R' i = wl R i := fun i hi => by rw [← hR', wl_lo hi]
  have hdig : ∀ j, j < n → wl R' (a + j) = sW F S R1 j := fun j hj => by
    rw [wl_hi, hR'a, wl_wv (fun i _ => sW_lt F S R1 i) j hj]
  have hRan : R < wB ^ (a + n) := by
    rw [Nat.pow_add]
    have := Nat.lt_mul_div_succ R (wB_pos a)
    rw [hR1] at this
    exact Nat.lt_of_lt_of_le this (Nat.mul_le_mul_left _ hRn)
  have hR'an : R' < wB ^ (a + n) := by
    rw [Nat.pow_add]
    have := Nat.lt_mul_div_succ R' (wB_pos a)
    rw [hR'a] at this
    exact Nat.lt_of_lt_of_le this (Nat.mul_le_mul_left _ hWlt)
  have us : ∀ g, (uA m p g).2.2.1 o 1 = nI (wu S) := fun g => by
    show va_up m.2.2.1 p g o 1 = _
    rw [va_up_ne _ _ (Ne.symm hpo)]; exact Vo.2.2
  have rs : ∀ g, (uA m p g).2.2.1 q = wr S := fun g => by
    show va_up m.2.2.1 p g q = _
    rw [va_up_ne _ _ (Ne.symm hpq)]; exact Vo.2.1
  have fin : X0 82 [(5, .long (lN (sO F S R1 n)))] [] (uA m p (wr R')) 0 0 := by
    refine jm_run hX [] 10 ?_
    refine ⟨Nat.le_refl _, Nat.le_refl _, trivial, wv (sW F S R1) n, sO F S R1 n, ?_, hWlt, sO_le hF n, ?_, ?_⟩
    · rw [hR1]; exact hsum
    · show some (Value.int (lN (sO F S R1 n)).toInt32) = _
      rw [lN_i]
    · rw [hR']
  have loop : ∀ (e j : Nat), j + e = n → X0 6 [(0, .ref h), (1, .ref o), (2, .long (lN F)), (4, .int (nI a)), (5, .long (lN (sO F S R1 j))), (7, .int (nI j))] [] (uA m p (wm R' R (a + j))) 0 0 := by
    intro e
    induction e with
    | zero =>
      intro j hj
      rw [show j = n by omega, wm_end hR'an hRan]
      refine jm_run hX [(82, [5])] 20 ?_
      refine And.intro To.1 (And.intro (fun h0 => fin) (fun h0 => ?_))
      have h0 : ¬ (uA m p (wr R')).2.2.1 o 1 < nI n := h0
      rw [us] at h0
      have hn13 : a + n = 13 := by
        rcases Nat.lt_or_ge (wu S) n with g | g
        · exact absurd (nI_lt g (by omega)) h0
        · omega
      refine And.intro (fun h1 => fin) (fun h1 => ?_)
      have h1 : ¬ (13 : Int32) ≤ nI a + nI n := h1
      rw [nI_add, hn13] at h1
      exact absurd (by decide) h1
    | succ e ih =>
      intro j hj
      have e0 : (nI a + nI j).toNatClampNeg = a + j := by rw [nI_add, nI_c (by omega)]
      have e1 : (uA m p (wm R' R (a + j))).2.2.1 p (nI a + nI j).toNatClampNeg = nI (wl R (a + j)) := by
        rw [e0]; show va_up m.2.2.1 p _ p (a + j) = _; rw [va_up_self, wm_at]
      have hR1j : wl R (a + j) = wl R1 j := by rw [wl_hi, hR1]
      have hst := sW_eq F S R1 j
      have b1 : wl R1 j < 1073741824 := wl_lt R1 j
      have b2 : wl S j < 1073741824 := wl_lt S j
      have b3 : F * wl S j ≤ 1073741823 * 1073741823 := Nat.mul_le_mul (Nat.le_of_lt_succ hF) (by omega)
      have b4 := sO_le (S := S) (R := R1) hF j
      have b5 := sO_le (S := S) (R := R1) hF (j + 1)
      have hleft : ((nI (wl R (a + j))).toInt64 - (nI (wl S j)).toInt64 * lN F - lN (sO F S R1 j)).toInt = (sW F S R1 j : Int) - (sO F S R1 (j + 1) : Nat) * 1073741824 := by
        rw [lm_l (wl_lt R (a + j)), lm_l (wl_lt S j), lN_mul, lz_sub3, Nat.mul_comm (wl S j) F, hR1j, lz_sub (by omega) (by omega)]
        omega
      have k := ih (j + 1) (by omega)
      rw [show a + (j + 1) = (a + j) + 1 by omega, ← wm_s, hdig j (by omega), ← uI_uA, ← lz_mask (sW_lt F S R1 j) hleft, ← lz_shr (sW_lt F S R1 j) (by omega) hleft, ← e1, ← nI_1] at k
      have key := c_Wh_limb (l := l) (D := D) (ca := ca) (m := uA m p (wm R' R (a + j))) (h := o) (p := q) (i := j) To (rs _) (by omega)
      refine jm_run hX [(6, [0, 1, 2, 4, 5, 7])] 60 ?_
      refine And.intro To.1 (And.intro (fun h0 => ?_) (fun _ => ?_))
      · have h0 : (uA m p (wm R' R (a + j))).2.2.1 o 1 < nI j := h0
        rw [us] at h0
        exact absurd h0 (nI_nlt (show j ≤ wu S by omega) (by omega))
      refine And.intro (fun h1 => ?_) (fun _ => ?_)
      · have h1 : (13 : Int32) ≤ nI a + nI j := h1
        rw [nI_add] at h1
        exact absurd h1 (nI_ge (show a + j < 13 by omega) (by decide))
      refine And.intro T.1 ⟨some p, T.2.1, ?_⟩
      refine And.intro T.2.2.1 (And.intro ?_ ?_)
      · show vp_in (nI a + nI j) (m.2.1 p).2
        rw [nI_add]; exact vin13 T.2.2.2 (by omega)
      refine And.intro To.1 (And.intro (Nat.le_of_ble_eq_true rfl) (And.intro (Nat.le_of_ble_eq_true rfl) ⟨0, 0, _, Nat.le_refl _, Nat.le_refl _, key, fun v m' hq => ?_⟩))
      obtain ⟨rfl, rfl⟩ := hq
      have ej : (if j < 13 then wr S j else (0 : Int32)) = nI (wl S j) := by
        by_cases g : j < 13
        · rw [if_pos g]
        · rw [if_neg g, wl_zero Vo.1 (by omega)]; rfl
      rw [ej]
      refine And.intro T.1 ⟨some p, T.2.1, ?_⟩
      refine And.intro T.2.2.1 (And.intro ?_ ?_)
      · show vp_in (nI a + nI j) (m.2.1 p).2
        rw [nI_add]; exact vin13 T.2.2.2 (by omega)
      have k2 : X0 6 [(0, .ref h), (1, .ref o), (2, .long (lN F)), (4, .int (nI a)), (5, .long (-((((uA m p (wm R' R (a + j))).2.2.1 p (nI a + nI j).toNatClampNeg).toInt64 - (nI (wl S j)).toInt64 * lN F - lN (sO F S R1 j)) >>> ((30 : Int32).toInt64 &&& 63)))), (7, .int (nI j + 1))] [] (uI (uA m p (wm R' R (a + j))) p (nI a + nI j).toNatClampNeg ((((uA m p (wm R' R (a + j))).2.2.1 p (nI a + nI j).toNatClampNeg).toInt64 - (nI (wl S j)).toInt64 * lN F - lN (sO F S R1 j)) &&& 1073741823).toInt32) 0 0 := by
        rw [e0] at k ⊢
        exact k
      exact k2
  have k0 := loop n 0 (by omega)
  rw [Nat.add_zero, wm_st hlow, ← hrow, uA_id] at k0
  refine jm_run hX [(6, [0, 1, 2, 4, 5, 7])] 20 ?_
  exact k0
theorem c_Wh_addAt {m : jm_M} {h p o q R S a n : Nat} (T : whT m h p) (hrow : m.2.2.1 p = wr R) (hR : R < wB ^ 13) (To : whT m o q) (Vo : whV m o q S) (hpq : p ≠ q) (hpo : p ≠ o) (hn : n = min (wu S + 1) (13 - a)) (ha : a + wu S ≤ 13) (hRn : R / wB ^ a < wB ^ n) : jm_C l D ca n_Wh_addAt [.ref h, .ref o, .int (nI a)] m 0 0 (fun v m' => v = some (.int (nI ((R / wB ^ a + S) / wB ^ n))) ∧ m' = uA m p (wr (R % wB ^ a + (R / wB ^ a + S) % wB ^ n * wB ^ a))) := by
  refine jm_C_of (cd := cd_Wh_addAt) (ini := false) (by decide +kernel) ok_Wh_addAt (fun h => by cases h) (Nat.le_of_ble_eq_true rfl) ?_
  intro X0 hX
  have hus := wu_le S
  have hSn : S < wB ^ n := Nat.lt_of_lt_of_le (wu_lt Vo.1) (Nat.pow_le_pow_right (by decide) (by omega))
  generalize hR1 : R / wB ^ a = R1 at hRn
  generalize hR' : R % wB ^ a + (R1 + S) % wB ^ n * wB ^ a = R'
  have hR'a : R' / wB ^ a = (R1 + S) % wB ^ n := by rw [← hR', wj_div]
  have hWlt : (R1 + S) % wB ^ n < wB ^ n := Nat.mod_lt _ (wB_pos n)
  have hlow : ∀ i, i < a → wl R' i = wl R i := fun i hi => by rw [← hR', wl_lo hi]
  let P : Nat → Nat := fun j => R1 % wB ^ j + S % wB ^ j
  have hP : ∀ j, P (j + 1) = P j + (wl R1 j + wl S j) * wB ^ j := by
    intro j
    show R1 % wB ^ (j + 1) + S % wB ^ (j + 1) = R1 % wB ^ j + S % wB ^ j + (wl R1 j + wl S j) * wB ^ j
    rw [wl_div R1 j, wl_div S j, Nat.add_mul]
    omega
  have hPm : ∀ j, j < n → wl (P (j + 1)) j = wl R' (a + j) := by
    intro j hj
    rw [wl_hi, hR'a]
    refine wl_congr ?_
    have e : wB ^ n = wB ^ (j + 1) * wB ^ (n - j - 1) := by
      rw [← Nat.pow_add]; congr 1; omega
    show (R1 % wB ^ (j + 1) + S % wB ^ (j + 1)) % wB ^ (j + 1) = (R1 + S) % wB ^ n % wB ^ (j + 1)
    rw [e, Nat.mod_mul_right_mod, ← Nat.add_mod]
  have hc : ∀ j, P j / wB ^ j ≤ 1 := by
    intro j
    have h1 : R1 % wB ^ j < wB ^ j := Nat.mod_lt _ (wB_pos j)
    have h2 : S % wB ^ j < wB ^ j := Nat.mod_lt _ (wB_pos j)
    have h4 : P j < wB ^ j * 2 := by
      show R1 % wB ^ j + S % wB ^ j < _
      omega
    have := Nat.div_lt_of_lt_mul h4
    omega
  have hPn : P n / wB ^ n = (R1 + S) / wB ^ n := by
    show (R1 % wB ^ n + S % wB ^ n) / wB ^ n = _
    rw [Nat.mod_eq_of_lt hRn, Nat.mod_eq_of_lt hSn]
  have hRan : R < wB ^ (a + n) := by
    rw [Nat.pow_add]
    have := Nat.lt_mul_div_succ R (wB_pos a)
    rw [hR1] at this
    exact Nat.lt_of_lt_of_le this (Nat.mul_le_mul_left _ hRn)
  have hR'an : R' < wB ^ (a + n) := by
    rw [Nat.pow_add]
    have := Nat.lt_mul_div_succ R' (wB_pos a)
    rw [hR'a] at this
    exact Nat.lt_of_lt_of_le this (Nat.mul_le_mul_left _ hWlt)
  have us : ∀ g, (uA m p g).2.2.1 o 1 = nI (wu S) := fun g => by
    show va_up m.2.2.1 p g o 1 = _
    rw [va_up_ne _ _ (Ne.symm hpo)]; exact Vo.2.2
  have rs : ∀ g, (uA m p g).2.2.1 q = wr S := fun g => by
    show va_up m.2.2.1 p g q = _
    rw [va_up_ne _ _ (Ne.symm hpq)]; exact Vo.2.1
  have fin : X0 72 [(3, .int (nI (P n / wB ^ n)))] [] (uA m p (wr R')) 0 0 := by
    refine jm_run hX [] 10 ?_
    refine ⟨Nat.le_refl _, Nat.le_refl _, trivial, ?_, ?_⟩
    · rw [hR1, hPn]
    · rw [hR1, hR']
  have loop : ∀ (e j : Nat), j + e = n → X0 5 [(0, .ref h), (1, .ref o), (2, .int (nI a)), (3, .int (nI (P j / wB ^ j))), (4, .int (nI j))] [] (uA m p (wm R' R (a + j))) 0 0 := by
    intro e
    induction e with
    | zero =>
      intro j hj
      rw [show j = n by omega, wm_end hR'an hRan]
      refine jm_run hX [(72, [3])] 20 ?_
      refine And.intro To.1 (And.intro (fun h0 => fin) (fun h0 => ?_))
      have h0 : ¬ (uA m p (wr R')).2.2.1 o 1 < nI n := h0
      rw [us] at h0
      have hn13 : a + n = 13 := by
        rcases Nat.lt_or_ge (wu S) n with g | g
        · exact absurd (nI_lt g (by omega)) h0
        · omega
      refine And.intro (fun h1 => fin) (fun h1 => ?_)
      have h1 : ¬ (13 : Int32) ≤ nI a + nI n := h1
      rw [nI_add, hn13] at h1
      exact absurd (by decide) h1
    | succ e ih =>
      intro j hj
      have e0 : (nI a + nI j).toNatClampNeg = a + j := by rw [nI_add, nI_c (by omega)]
      have e1 : (uA m p (wm R' R (a + j))).2.2.1 p (nI a + nI j).toNatClampNeg = nI (wl R (a + j)) := by
        rw [e0]; show va_up m.2.2.1 p _ p (a + j) = _; rw [va_up_self, wm_at]
      have hR1j : wl R (a + j) = wl R1 j := by rw [wl_hi, hR1]
      have b1 : wl R1 j < 1073741824 := wl_lt R1 j
      have b2 : wl S j < 1073741824 := wl_lt S j
      have b4 := hc j
      have hs : nI (wl R (a + j)) + nI (wl S j) + nI (P j / wB ^ j) = nI ((wl R1 j + wl S j) + P j / wB ^ j) := by
        rw [hR1j, nI_add, nI_add]
      have hmk : ((nI ((wl R1 j + wl S j) + P j / wB ^ j)).toInt64 &&& 1073741823).toInt32 = nI (((wl R1 j + wl S j) + P j / wB ^ j) % wB) := by
        rw [nI_l (by omega), lm_mask (by omega)]
      have hsh : ((nI ((wl R1 j + wl S j) + P j / wB ^ j)).toUInt32 >>> ((30 : Int32).toUInt32 &&& Int32.toUInt32 31)).toInt32 = nI (((wl R1 j + wl S j) + P j / wB ^ j) / wB) := pk_ushrN (by omega) 30 30 (by decide)
      have k := ih (j + 1) (by omega)
      rw [← cy_next (t := fun j => wl R1 j + wl S j) (hP j), show a + (j + 1) = (a + j) + 1 by omega, ← wm_s, ← hPm j (by omega), ← cy_dig (t := fun j => wl R1 j + wl S j) (hP j), ← uI_uA, ← hmk, ← hsh, ← hs, ← e1, ← nI_1] at k
      have key := c_Wh_limb (l := l) (D := D) (ca := ca) (m := uA m p (wm R' R (a + j))) (h := o) (p := q) (i := j) To (rs _) (by omega)
      refine jm_run hX [(5, [0, 1, 2, 3, 4])] 60 ?_
      refine And.intro To.1 (And.intro (fun h0 => ?_) (fun _ => ?_))
      · have h0 : (uA m p (wm R' R (a + j))).2.2.1 o 1 < nI j := h0
        rw [us] at h0
        exact absurd h0 (nI_nlt (show j ≤ wu S by omega) (by omega))
      refine And.intro (fun h1 => ?_) (fun _ => ?_)
      · have h1 : (13 : Int32) ≤ nI a + nI j := h1
        rw [nI_add] at h1
        exact absurd h1 (nI_ge (show a + j < 13 by omega) (by decide))
      refine And.intro T.1 ⟨some p, T.2.1, ?_⟩
      refine And.intro T.2.2.1 (And.intro ?_ ?_)
      · show vp_in (nI a + nI j) (m.2.1 p).2
        rw [nI_add]; exact vin13 T.2.2.2 (by omega)
      refine And.intro To.1 (And.intro (Nat.le_of_ble_eq_true rfl) (And.intro (Nat.le_of_ble_eq_true rfl) ⟨0, 0, _, Nat.le_refl _, Nat.le_refl _, key, fun v m' hq => ?_⟩))
      obtain ⟨rfl, rfl⟩ := hq
      have ej : (if j < 13 then wr S j else (0 : Int32)) = nI (wl S j) := by
        by_cases g : j < 13
        · rw [if_pos g]
        · rw [if_neg g, wl_zero Vo.1 (by omega)]; rfl
      rw [ej]
      refine And.intro T.1 ⟨some p, T.2.1, ?_⟩
      refine And.intro T.2.2.1 (And.intro ?_ ?_)
      · show vp_in (nI a + nI j) (m.2.1 p).2
        rw [nI_add]; exact vin13 T.2.2.2 (by omega)
      have k2 : X0 5 [(0, .ref h), (1, .ref o), (2, .int (nI a)), (3, .int (((uA m p (wm R' R (a + j))).2.2.1 p (nI a + nI j).toNatClampNeg + nI (wl S j) + nI (P j / wB ^ j)).toUInt32 >>> ((30 : Int32).toUInt32 &&& Int32.toUInt32 31)).toInt32), (4, .int (nI j + 1))] [] (uI (uA m p (wm R' R (a + j))) p (nI a + nI j).toNatClampNeg (((uA m p (wm R' R (a + j))).2.2.1 p (nI a + nI j).toNatClampNeg + nI (wl S j) + nI (P j / wB ^ j)).toInt64 &&& 1073741823).toInt32) 0 0 := by
        rw [e0] at k ⊢
        exact k
      exact k2
  have k0 := loop n 0 (by omega)
  rw [Nat.add_zero, wm_st hlow, ← hrow, uA_id, show P 0 / wB ^ 0 = 0 by
    show (R1 % wB ^ 0 + S % wB ^ 0) / wB ^ 0 = 0
    rw [Nat.pow_zero, Nat.mod_one, Nat.mod_one]] at k0
  refine jm_run hX [(5, [0, 1, 2, 3, 4])] 20 ?_
  exact k0
end WH6
