/-! Division: leading zeros, a guess of a digit, the digit. -/
theorem nI_less {x k : Nat} (h : k ≤ x) : nI x + (-(nI k)) = nI (x - k) := by
  rw [← pk_sub h, Int32.sub_eq_add_neg]
theorem lN_min {a b : Nat} (ha : a < 2 ^ 63) (hb : b < 2 ^ 63) : (if lN b < lN a then lN b else lN a) = lN (min a b) := by
  by_cases h : b < a
  · rw [if_pos ((pk_lLT hb ha).mpr h), Nat.min_eq_right (by omega)]
  · rw [if_neg (fun z => h ((pk_lLT hb ha).mp z)), Nat.min_eq_left (by omega)]
section DV
variable {l : Launch} {D : va_G} {ca : Nat → ClassId}
theorem c_In_nlz {m : jm_M} {n : Nat} (hn0 : 0 < n) (hn : n < 2 ^ 30) : jm_C l D ca n_In_numberOfLeadingZeros [.int (nI n)] m 0 0 (fun v m' => m' = m ∧ ∃ k, 2 ≤ k ∧ k ≤ 31 ∧ v = some (.int (nI k)) ∧ 2 ^ (31 - k) ≤ n ∧ n < 2 ^ (32 - k)) := by
  refine jm_C_of (cd := cd_In_numberOfLeadingZeros) (ini := false) (by decide +kernel) ok_In_numberOfLeadingZeros (fun h => by cases h) (Nat.le_of_ble_eq_true rfl) ?_
  intro X hX
  have hdd : ∀ s t, n / 2 ^ s / 2 ^ t = n / 2 ^ (s + t) := fun s t => by rw [Nat.div_div_eq_div_mul, ← Nat.pow_add]
  have hle : ∀ s, n / 2 ^ s ≤ n := fun s => Nat.div_le_self _ _
  have s73 : ∀ s, s ≤ 30 → 0 < n / 2 ^ s → n / 2 ^ s < 4 → X 73 [(0, .int (nI (n / 2 ^ s))), (1, .int (nI (31 - s)))] [] m 0 0 := by
    intro s hs h0 h4
    have e1 : ((nI (n / 2 ^ s)).toUInt32 >>> ((1 : Int32).toUInt32 &&& Int32.toUInt32 31)).toInt32 = nI (n / 2 ^ s / 2 ^ 1) := pk_ushrN (by omega) 1 1 (by decide)
    refine jm_run hX [] 10 ?_
    have h1 : 2 ^ s * (n / 2 ^ s) ≤ n := Nat.mul_div_le _ _
    have h2 : n < 2 ^ s * (n / 2 ^ s + 1) := Nat.lt_mul_div_succ n (Nat.pow_pos (by decide))
    refine ⟨Nat.le_refl _, Nat.le_refl _, trivial, rfl, 31 - s - n / 2 ^ s / 2 ^ 1, ?_, by omega, ?_, ?_⟩
    · -- n below 2^30: so s is small
      have hs29 : 2 ^ s ≤ n := by
        rcases Nat.lt_or_ge n (2 ^ s) with g | g
        · rw [Nat.div_eq_of_lt g] at h0; omega
        · exact g
      have : s < 30 := by
        rcases Nat.lt_or_ge s 30 with g | g
        · exact g
        · have := Nat.pow_le_pow_right (show 0 < 2 by decide) g
          omega
      rcases Nat.lt_or_ge (n / 2 ^ s) 2 with g | g
      · have : n / 2 ^ s / 2 ^ 1 = 0 := by omega
        omega
      · have h5 : 2 ^ s * 2 ≤ n := Nat.le_trans (Nat.mul_le_mul_left _ g) h1
        have : s < 29 := by
          rcases Nat.lt_or_ge s 29 with g2 | g2
          · exact g2
          · have h6 := Nat.pow_le_pow_right (show 0 < 2 by decide) g2
            omega
        omega
    · show some (Value.int (nI (31 - s) - ((nI (n / 2 ^ s)).toUInt32 >>> ((1 : Int32).toUInt32 &&& Int32.toUInt32 31)).toInt32)) = _
      rw [e1, pk_sub (by omega)]
    · rcases Nat.lt_or_ge (n / 2 ^ s) 2 with g | g
      · have e2 : n / 2 ^ s = 1 := by omega
        rw [e2] at h1 h2 ⊢
        rw [show 31 - (31 - s - 1 / 2 ^ 1) = s by omega, show 32 - (31 - s - 1 / 2 ^ 1) = s + 1 by omega, Nat.pow_succ]
        omega
      · have e2 : n / 2 ^ s / 2 ^ 1 = 1 := by omega
        rw [e2, show 31 - (31 - s - 1) = s + 1 by omega, show 32 - (31 - s - 1) = s + 2 by omega, Nat.pow_succ, Nat.pow_add]
        have h5 : 2 ^ s * 2 ≤ n := Nat.le_trans (Nat.mul_le_mul_left _ g) h1
        have h6 : n < 2 ^ s * 4 := Nat.lt_of_lt_of_le h2 (Nat.mul_le_mul_left _ (by omega))
        omega
  have s61 : ∀ s, s ≤ 28 → 0 < n / 2 ^ s → n / 2 ^ s < 16 → X 61 [(0, .int (nI (n / 2 ^ s))), (1, .int (nI (31 - s)))] [] m 0 0 := by
    intro s hs h0 h4
    have e1 : ((nI (n / 2 ^ s)).toUInt32 >>> ((2 : Int32).toUInt32 &&& Int32.toUInt32 31)).toInt32 = nI (n / 2 ^ s / 2 ^ 2) := pk_ushrN (by omega) 2 2 (by decide)
    refine jm_run hX [(73, [0, 1])] 10 ?_
    refine And.intro (fun g => ?_) (fun g => ?_)
    · refine s73 s (by omega) h0 ?_
      rcases Nat.lt_or_ge (n / 2 ^ s) 4 with q | q
      · exact q
      · exact absurd g (nI_nlt q (by omega))
    · have h5 : 4 ≤ n / 2 ^ s := by
        rcases Nat.lt_or_ge (n / 2 ^ s) 4 with q | q
        · exact absurd (nI_lt q (by decide)) g
        · exact q
      have k := s73 (s + 2) (by omega) (by rw [← hdd]; omega) (by rw [← hdd]; omega)
      rw [← hdd s 2, ← e1, show 31 - (s + 2) = (31 - s) - 2 by omega, ← nI_less (k := 2) (by omega)] at k
      exact k
  have s48 : ∀ s, s ≤ 24 → 0 < n / 2 ^ s → n / 2 ^ s < 256 → X 48 [(0, .int (nI (n / 2 ^ s))), (1, .int (nI (31 - s)))] [] m 0 0 := by
    intro s hs h0 h4
    have e1 : ((nI (n / 2 ^ s)).toUInt32 >>> ((4 : Int32).toUInt32 &&& Int32.toUInt32 31)).toInt32 = nI (n / 2 ^ s / 2 ^ 4) := pk_ushrN (by omega) 4 4 (by decide)
    refine jm_run hX [(61, [0, 1])] 10 ?_
    refine And.intro (fun g => ?_) (fun g => ?_)
    · refine s61 s (by omega) h0 ?_
      rcases Nat.lt_or_ge (n / 2 ^ s) 16 with q | q
      · exact q
      · exact absurd g (nI_nlt q (by omega))
    · have h5 : 16 ≤ n / 2 ^ s := by
        rcases Nat.lt_or_ge (n / 2 ^ s) 16 with q | q
        · exact absurd (nI_lt q (by decide)) g
        · exact q
      have k := s61 (s + 4) (by omega) (by rw [← hdd]; omega) (by rw [← hdd]; omega)
      rw [← hdd s 4, ← e1, show 31 - (s + 4) = (31 - s) - 4 by omega, ← nI_less (k := 4) (by omega)] at k
      exact k
  have s33 : ∀ s, s ≤ 16 → 0 < n / 2 ^ s → n / 2 ^ s < 65536 → X 33 [(0, .int (nI (n / 2 ^ s))), (1, .int (nI (31 - s)))] [] m 0 0 := by
    intro s hs h0 h4
    have e1 : ((nI (n / 2 ^ s)).toUInt32 >>> ((8 : Int32).toUInt32 &&& Int32.toUInt32 31)).toInt32 = nI (n / 2 ^ s / 2 ^ 8) := pk_ushrN (by omega) 8 8 (by decide)
    refine jm_run hX [(48, [0, 1])] 10 ?_
    refine And.intro (fun g => ?_) (fun g => ?_)
    · refine s48 s (by omega) h0 ?_
      rcases Nat.lt_or_ge (n / 2 ^ s) 256 with q | q
      · exact q
      · exact absurd g (nI_nlt q (by omega))
    · have h5 : 256 ≤ n / 2 ^ s := by
        rcases Nat.lt_or_ge (n / 2 ^ s) 256 with q | q
        · exact absurd (nI_lt q (by decide)) g
        · exact q
      -- s is 0 or n / 2^s is small enough
      have k := s48 (s + 8) (by omega) (by rw [← hdd]; omega) (by rw [← hdd]; omega)
      rw [← hdd s 8, ← e1, show 31 - (s + 8) = (31 - s) - 8 by omega, ← nI_less (k := 8) (by omega)] at k
      exact k
  have e16 : ((nI n).toUInt32 >>> ((16 : Int32).toUInt32 &&& Int32.toUInt32 31)).toInt32 = nI (n / 2 ^ 16) := pk_ushrN (by omega) 16 16 (by decide)
  refine jm_run hX [(33, [0, 1])] 20 ?_
  refine And.intro (fun _ => ?_) (fun g => absurd (show (0 : Int32) < nI n from nI_lt (a := 0) hn0 (by omega)) g)
  refine And.intro (fun g => ?_) (fun g => ?_)
  · have k := s33 0 (by omega) (by rw [Nat.pow_zero, Nat.div_one]; exact hn0) (by
      rw [Nat.pow_zero, Nat.div_one]
      rcases Nat.lt_or_ge n 65536 with q | q
      · exact q
      · exact absurd g (nI_nlt q (by omega)))
    rw [Nat.pow_zero, Nat.div_one] at k
    exact k
  · have h5 : 65536 ≤ n := by
      rcases Nat.lt_or_ge n 65536 with q | q
      · exact absurd (nI_lt q (by decide)) g
      · exact q
    have k := s33 16 (by omega) (by omega) (by omega)
    rw [← e16] at k
    exact k
theorem c_Dv_guessDigit {m : jm_M} {ad V : Nat → Nat} {R a : Nat} (S : SST m ad) (hV : WVx m ad 115 V) (hrow : m.2.2.1 (ad 331) = wr R) (hR : R < wB ^ 13) (hs1 : 1 ≤ wu (V 116)) (ht : wl (V 116) (wu (V 116) - 1) ≠ 0) (ha : a + wu (V 116) ≤ 13) (hR1 : R / wB ^ a < wB ^ (wu (V 116) + 1)) : jm_C l D ca n_Dv_guessDigit [.ref (ad 4), .int (nI a)] m 0 0 (fun v m' => m' = m ∧ v = some (.int (nI (min (R / wB ^ a / wB ^ (wu (V 116) - 1) / wl (V 116) (wu (V 116) - 1)) 1073741823)))) := by
  refine jm_C_of (cd := cd_Dv_guessDigit) (ini := false) (by decide +kernel) ok_Dv_guessDigit (fun h => by cases h) (Nat.le_of_ble_eq_true rfl) ?_
  intro X0 hX
  have od : jm_ok m (ad 4) 0 := S.ok 4 (Or.inl (by decide))
  have rs : m.2.2.2.2 (ad 4) 2 = some (ad 332) := S.2.2.1 (4, 2, 332) (by decide)
  have rr : m.2.2.2.2 (ad 4) 1 = some (ad 330) := S.2.2.1 (4, 1, 330) (by decide)
  have Ts := S.wh 116 (by decide)
  have Tr := S.wh 115 (by decide)
  have Vs := hV 116 (by decide) (by decide)
  generalize hS : V 116 = Sv at *
  generalize hu : wu Sv = u at *
  generalize htp : wl Sv (u - 1) = t at *
  have ht31 : t < 1073741824 := by rw [← htp]; exact wl_lt Sv _
  have hlimb : ∀ i, (if i < 13 then wr R i else (0 : Int32)) = nI (wl R i) := fun i => by
    by_cases g : i < 13
    · rw [if_pos g]
    · rw [if_neg g, wl_zero hR (by omega)]; rfl
  have htwo : wl R (a + u) * wB + wl R (a + u - 1) = R / wB ^ a / wB ^ (u - 1) := by
    have e1 : a + u - 1 = a + (u - 1) := by omega
    rw [e1, wl_hi, wl_hi]
    have := wl_split (R / wB ^ a) (u - 1)
    rw [show u - 1 + 1 = u by omega] at this
    rw [this, wl_top hR1]
  have hbig : wl R (a + u) * wB + wl R (a + u - 1) < 2 ^ 62 := by
    have h1 : wl R (a + u) < 1073741824 := wl_lt R _
    have h2 : wl R (a + u - 1) < 1073741824 := wl_lt R _
    have h3 : wl R (a + u) * wB ≤ 1073741823 * 1073741824 := Nat.mul_le_mul (by omega) (Nat.le_refl _)
    omega
  have hval : ((lN (wl R (a + u))) <<< ((30 : Int32).toInt64 &&& 63)) + lN (wl R (a + u - 1)) = lN (wl R (a + u) * wB + wl R (a + u - 1)) := by
    have e30 : (30 : Int32) = nI 30 := rfl
    rw [e30, wb_shl _ (by decide), lN_add]
  refine jm_run hX [] 60 ?_
  refine And.intro od ⟨some (ad 332), rs, ?_⟩
  refine And.intro Ts.1 (And.intro (Nat.le_of_ble_eq_true rfl) (And.intro (Nat.le_of_ble_eq_true rfl) ⟨0, 0, _, Nat.le_refl _, Nat.le_refl _, c_Wh_topLimb Ts Vs, fun v m' hq => ?_⟩))
  obtain ⟨rfl, rfl⟩ := hq
  rw [hu, htp]
  refine And.intro (fun g => ?_) (fun _ => ?_)
  · have g : nI t = 0 := g
    rw [← nI_0, nI_eq (by omega) (by omega)] at g
    exact absurd g ht
  refine And.intro od ⟨some (ad 332), rs, And.intro Ts.1 ?_⟩
  have eu : m'.2.2.1 (ad 332) 1 = nI u := by rw [← hu]; exact Vs.2.2
  have eh : nI a + m'.2.2.1 (ad 332) 1 = nI (a + u) := by rw [eu, nI_add]
  refine And.intro od ⟨some (ad 330), rr, ?_⟩
  have key1 := c_Wh_limb (l := l) (D := D) (ca := ca) (m := m') (h := ad 330) (p := ad 331) (i := a + u) Tr hrow (by omega)
  rw [← eh] at key1
  refine And.intro Tr.1 (And.intro (Nat.le_of_ble_eq_true rfl) (And.intro (Nat.le_of_ble_eq_true rfl) ⟨0, 0, _, Nat.le_refl _, Nat.le_refl _, key1, fun v m2 hq => ?_⟩))
  obtain ⟨rfl, rfl⟩ := hq
  rw [hlimb]
  refine And.intro od ⟨some (ad 330), rr, ?_⟩
  have key2 := c_Wh_limb (l := l) (D := D) (ca := ca) (m := m2) (h := ad 330) (p := ad 331) (i := a + u - 1) Tr hrow (by omega)
  have eh2 : nI a + m2.2.2.1 (ad 332) 1 - 1 = nI (a + u - 1) := by
    rw [eh, show a + u = (a + u - 1) + 1 by omega, nI_pred]; rfl
  rw [← eh2] at key2
  refine And.intro Tr.1 (And.intro (Nat.le_of_ble_eq_true rfl) (And.intro (Nat.le_of_ble_eq_true rfl) ⟨0, 0, _, Nat.le_refl _, Nat.le_refl _, key2, fun v m3 hq => ?_⟩))
  obtain ⟨rfl, rfl⟩ := hq
  rw [hlimb]
  have etop : (nI t).toInt64 = lN t := nI_l (by omega)
  refine And.intro ?_ ?_
  · show ¬ (nI t).toInt64 = 0
    rw [etop]
    intro g
    have : lN t = lN 0 := g
    rw [pk_lEQ (by omega) (by omega)] at this
    exact ht this
  · refine ⟨Nat.le_of_ble_eq_true rfl, Nat.le_refl _, Nat.le_refl _, ?_⟩
    refine ⟨Nat.le_refl _, Nat.le_refl _, trivial, rfl, ?_⟩
    show some (Value.int (if (1073741823 : Int64) < (((nI (wl R (a + u))).toInt64 <<< ((30 : Int32).toInt64 &&& 63)) + (nI (wl R (a + u - 1))).toInt64) / (nI t).toInt64 then (1073741823 : Int64) else (((nI (wl R (a + u))).toInt64 <<< ((30 : Int32).toInt64 &&& 63)) + (nI (wl R (a + u - 1))).toInt64) / (nI t).toInt64).toInt32) = _
    rw [lm_l (wl_lt R _), lm_l (wl_lt R _), etop, hval, pk_lDiv (by omega) (by omega) (by omega)]
    have e5 : (1073741823 : Int64) = lN 1073741823 := rfl
    have hle := Nat.div_le_self (wl R (a + u) * wB + wl R (a + u - 1)) t
    rw [e5, lN_min (by omega) (by decide), lN_i, htwo]
end DV
