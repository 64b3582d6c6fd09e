theorem wv_up {h : Nat → Nat} {a d : Nat} (h0 : h a = 0) : ∀ {n : Nat}, a < n → wv (va_up h a d) n = wv h n + d * wB ^ a
  | 0, hn => absurd hn (by omega)
  | n + 1, hn => by
    show wv (va_up h a d) n + va_up h a d n * wB ^ n = wv h n + h n * wB ^ n + d * wB ^ a
    by_cases e : n = a
    · subst e
      rw [va_up_self, h0, Nat.zero_mul, wv_congr (h := va_up h n d) (g := h) (fun i hi => va_up_ne _ _ (by omega))]
      omega
    · rw [va_up_ne _ _ e, wv_up h0 (n := n) (by omega)]
      omega
theorem wl_put {X a d : Nat} (hX : X < wB ^ 13) (ha : a < 13) (h0 : wl X a = 0) (hd : d < wB) : X + d * wB ^ a < wB ^ 13 ∧ (va_up (wr X) a (nI d)) = wr (X + d * wB ^ a) := by
  have e : wv (va_up (wl X) a d) 13 = X + d * wB ^ a := by rw [wv_up h0 ha, wv_wl' hX]
  have hl : ∀ i, i < 13 → va_up (wl X) a d i < wB := fun i _ => by
    by_cases q : i = a
    · subst q; rw [va_up_self]; exact hd
    · rw [va_up_ne _ _ q]; exact wl_lt X i
  have hlt : X + d * wB ^ a < wB ^ 13 := by rw [← e]; exact wv_lt hl
  refine ⟨hlt, ?_⟩
  funext j
  show va_up (wr X) a (nI d) j = nI (wl (X + d * wB ^ a) j)
  rcases Nat.lt_or_ge j 13 with q | q
  · rw [← e, wl_wv hl j q]
    by_cases g : j = a
    · subst g; rw [va_up_self, va_up_self]
    · rw [va_up_ne _ _ g, va_up_ne _ _ g]
  · rw [wl_zero hlt q, va_up_ne _ _ (by omega)]
    show nI (wl X j) = nI 0
    rw [wl_zero hX q]
section WH4
variable {l : Launch} {D : va_G} {ca : Nat → ClassId}
theorem c_Wh_subtract {m : jm_M} {h p o q X Y : Nat} (T : whT m h p) (V : whV m h p X) (To : whT m o q) (Vo : whV m o q Y) (hpq : p ≠ q) (hXY : Y ≤ X) : jm_C l D ca n_Wh_subtract [.ref h, .ref o] m 0 0 (fun v m' => v = none ∧ m' = whS m h p (X - Y)) := by
  refine jm_C_of (cd := cd_Wh_subtract) (ini := false) (by decide +kernel) ok_Wh_subtract (fun h => by cases h) (Nat.le_of_ble_eq_true rfl) ?_
  intro X0 hX
  have hux := wu_le X
  have hXu := wu_lt V.1
  have hZu : X - Y < wB ^ (wu X) := Nat.lt_of_le_of_lt (Nat.sub_le _ _) hXu
  have hph := whT_ne T
  have hused : ∀ g, (uA m p g).2.2.1 h 1 = nI (wu X) := fun g => by
    show va_up m.2.2.1 p g h 1 = _
    rw [va_up_ne _ _ (Ne.symm hph)]; exact V.2.2
  have fin : X0 60 [(0, .ref h)] [] (uA m p (wr (X - Y))) 0 0 := by
    have key := c_Wh_dropZeros (l := l) (D := D) (ca := ca) (m := uA m p (wr (X - Y))) (h := h) (p := p) (X := X - Y) (f := wu X) T (va_up_self _ _ _) (by omega) (by rw [Nat.min_eq_left hux]; exact hZu)
    rw [← hused (wr (X - Y))] at key
    refine jm_run hX [] 20 ?_
    refine And.intro T.1 (And.intro T.1 (And.intro (Nat.le_of_ble_eq_true rfl) (And.intro (Nat.le_of_ble_eq_true rfl) ⟨0, 0, _, Nat.le_refl _, Nat.le_refl _, key, fun v m' hq => ?_⟩)))
    obtain ⟨rfl, rfl⟩ := hq
    exact ⟨Nat.le_refl _, Nat.le_refl _, trivial, rfl, rfl⟩
  have loop : ∀ (d i : Nat), i + d = wu X → X0 4 [(0, .ref h), (1, .ref o), (2, .int (nI (wo X Y i))), (3, .int (nI i))] [] (uA m p (wm (X - Y) X i)) 0 0 := by
    intro d
    induction d with
    | zero =>
      intro i hi
      refine jm_run hX [(60, [0])] 10 ?_
      refine And.intro T.1 (And.intro (fun h0 => ?_) (fun h0 => ?_))
      · rw [show i = wu X by omega, wm_end hZu hXu]
        exact fin
      · have h0 : ¬ (uA m p (wm (X - Y) X i)).2.2.1 h 1 ≤ nI i := h0
        rw [hused] at h0
        exact absurd (nI_le (show wu X ≤ i by omega) (by omega)) h0
    | succ d ih =>
      intro i hi
      have e0 : (nI i).toNatClampNeg = i := nI_c (by omega)
      have e1 : (uA m p (wm (X - Y) X i)).2.2.1 p (nI i).toNatClampNeg = nI (wl X i) := by
        rw [e0]; show va_up m.2.2.1 p _ p i = _; rw [va_up_self, wm_at]
      have e2 : (uA m p (wm (X - Y) X i)).2.2.1 q (nI i).toNatClampNeg = nI (wl Y i) := by
        rw [e0]; show va_up m.2.2.1 p _ q i = _; rw [va_up_ne _ _ (Ne.symm hpq), Vo.2.1]
      have hst := wo_step hXY i
      have ho1 := wo_le X Y (i + 1)
      have ho0 := wo_le X Y i
      have hx : wl X i < 1073741824 := wl_lt X i
      have hy : wl Y i < 1073741824 := wl_lt Y i
      have hz : wl (X - Y) i < 1073741824 := wl_lt (X - Y) i
      have hB : wo X Y (i + 1) * wB = wo X Y (i + 1) * 1073741824 := rfl
      rw [hB] at hst
      have hleft : (nI (wl X i) - nI (wl Y i) - nI (wo X Y i)).toInt = (wl (X - Y) i : Int) - (wo X Y (i + 1) : Nat) * 1073741824 := by
        rw [sz_sub3, sz_sub (by omega) (by omega)]; omega
      have hmask : ((nI (wl X i) - nI (wl Y i) - nI (wo X Y i)).toInt64 &&& 1073741823).toInt32 = nI (wl (X - Y) i) := by
        rw [sz_mask32, sz_tn32 hleft, Nat.mod_eq_of_lt (wl_lt _ _)]
      have k := ih (i + 1) (by omega)
      rw [← wm_s, ← uI_uA, ← hmask, ← e1, ← e2, ← nI_1] at k
      refine jm_run hX [(4, [0, 1, 2, 3])] 40 ?_
      refine And.intro T.1 (And.intro (fun h0 => ?_) (fun h0 => ?_))
      · have h0 : (uA m p (wm (X - Y) X i)).2.2.1 h 1 ≤ nI i := h0
        rw [hused] at h0
        exact absurd h0 (nI_ge (show i < wu X by omega) (by omega))
      refine And.intro T.1 ⟨some p, T.2.1, ?_⟩
      refine And.intro T.2.2.1 (And.intro (vin13 T.2.2.2 (by omega)) ?_)
      refine And.intro To.1 ⟨some q, To.2.1, ?_⟩
      refine And.intro To.2.2.1 (And.intro (vin13 To.2.2.2 (by omega)) ?_)
      refine And.intro T.1 ⟨some p, T.2.1, ?_⟩
      refine And.intro T.2.2.1 (And.intro (vin13 T.2.2.2 (by omega)) ?_)
      refine And.intro (fun h0 => ?_) (fun h0 => ?_)
      · have h0 : (0 : Int32) ≤ (uA m p (wm (X - Y) X i)).2.2.1 p (nI i).toNatClampNeg - (uA m p (wm (X - Y) X i)).2.2.1 q (nI i).toNatClampNeg - nI (wo X Y i) := h0
        rw [e1, e2, Int32.le_iff_toInt_le, hleft] at h0
        have e3 : wo X Y (i + 1) = 0 := by
          have : (0 : Int32).toInt = 0 := by decide
          omega
        rw [e3] at k
        rw [e0] at k ⊢
        exact k
      · have h0 : ¬ (0 : Int32) ≤ (uA m p (wm (X - Y) X i)).2.2.1 p (nI i).toNatClampNeg - (uA m p (wm (X - Y) X i)).2.2.1 q (nI i).toNatClampNeg - nI (wo X Y i) := h0
        rw [e1, e2, Int32.le_iff_toInt_le, hleft] at h0
        have e3 : wo X Y (i + 1) = 1 := by
          have : (0 : Int32).toInt = 0 := by decide
          omega
        rw [e3] at k
        rw [e0] at k ⊢
        exact k
  have k0 := loop (wu X) 0 (by omega)
  rw [wm_0, show (fun j => nI (wl X j)) = m.2.2.1 p from V.2.1.symm, uA_id, show wo X Y 0 = 0 by
    unfold wo; rw [Nat.pow_zero, Nat.mod_one, Nat.mod_one]; rfl] at k0
  refine jm_run hX [(4, [0, 1, 2, 3])] 40 ?_
  exact k0
theorem c_Wh_setLimb {m : jm_M} {h p X a d : Nat} (T : whT m h p) (V : whV m h p X) (ha : a < 13) (h0 : wl X a = 0) (hd : d < wB) : jm_C l D ca n_Wh_setLimb [.ref h, .int (nI a), .int (nI d)] m 0 0 (fun v m' => v = none ∧ m' = whS m h p (X + d * wB ^ a)) := by
  refine jm_C_of (cd := cd_Wh_setLimb) (ini := false) (by decide +kernel) ok_Wh_setLimb (fun h => by cases h) (Nat.le_of_ble_eq_true rfl) ?_
  intro X0 hX
  obtain ⟨hlt, hrow⟩ := wl_put V.1 ha h0 hd
  have hux := wu_le X
  have hph := whT_ne T
  have hZ : X + d * wB ^ a < wB ^ (min (max (wu X) (a + 1)) 13) := by
    rw [Nat.min_eq_left (by omega)]
    rcases Nat.lt_or_ge a (wu X) with g | g
    · rw [Nat.max_eq_left (by omega)]
      rcases Nat.lt_or_ge (X + d * wB ^ a) (wB ^ wu X) with w | w
      · exact w
      · exfalso
        have h1 : wl (X + d * wB ^ a) (wu X) = 0 ∨ wu X = 13 := by
          rcases Nat.lt_or_ge (wu X) 13 with v | v
          · left
            have := congrFun hrow (wu X)
            rw [va_up_ne _ _ (by omega)] at this
            have h2 : nI (wl X (wu X)) = nI (wl (X + d * wB ^ a) (wu X)) := this
            rw [nI_eq (wl_31 _ _) (wl_31 _ _), wl_zero (wu_lt V.1) (Nat.le_refl _)] at h2
            exact h2.symm
          · right; omega
        rcases h1 with h1 | h1
        · -- all limbs from wu X on are 0
          have hz : ∀ j, wu X ≤ j → wl (X + d * wB ^ a) j = 0 := fun j hj => by
            have := congrFun hrow j
            rw [va_up_ne _ _ (by omega)] at this
            have h2 : nI (wl X j) = nI (wl (X + d * wB ^ a) j) := this
            rw [nI_eq (wl_31 _ _) (wl_31 _ _), wl_zero (wu_lt V.1) hj] at h2
            exact h2.symm
          have hw := wu_top (X := X + d * wB ^ a) (e := wu (X + d * wB ^ a)) (wu_le _) (wu_lt hlt) 
          have hn : wu (X + d * wB ^ a) ≤ wu X := by
            rcases Nat.lt_or_ge (wu X) (wu (X + d * wB ^ a)) with v | v
            · have h5 := wu_ge hlt (v := wu (X + d * wB ^ a) - 1) (by omega)
              have h6 := hz (wu (X + d * wB ^ a) - 1) (by omega)
              have h7 := wu_lt hlt
              rw [show wu (X + d * wB ^ a) = (wu (X + d * wB ^ a) - 1) + 1 by omega] at h7
              rw [wl_top h7] at h6
              have := Nat.div_pos h5 (wB_pos _)
              omega
            · exact v
          have := wu_lt hlt
          have h8 : wB ^ wu (X + d * wB ^ a) ≤ wB ^ wu X := Nat.pow_le_pow_right (by decide) hn
          omega
        · rw [h1] at w; omega
    · rw [Nat.max_eq_right (by omega), Nat.pow_succ, Nat.mul_comm (wB ^ a) wB]
      have h1 : X < wB ^ a := Nat.lt_of_lt_of_le (wu_lt V.1) (Nat.pow_le_pow_right (by decide) g)
      have h2 : (d + 1) * wB ^ a ≤ wB * wB ^ a := Nat.mul_le_mul_right _ hd
      rw [Nat.add_mul, Nat.one_mul] at h2
      omega
  have hused : ∀ g, (uA m p g).2.2.1 h 1 = nI (wu X) := fun g => by
    show va_up m.2.2.1 p g h 1 = _
    rw [va_up_ne _ _ (Ne.symm hph)]; exact V.2.2
  have fin : X0 17 [(0, .ref h), (1, .int (nI a))] [] (uA m p (wr (X + d * wB ^ a))) 0 0 := by
    have key := c_Wh_dropZeros (l := l) (D := D) (ca := ca) (m := uA m p (wr (X + d * wB ^ a))) (h := h) (p := p) (X := X + d * wB ^ a) (f := max (wu X) (a + 1)) T (va_up_self _ _ _) (by omega) hZ
    rw [← nI_max (by omega) (by omega), ← hused (wr (X + d * wB ^ a)), ← nI_1] at key
    refine jm_run hX [] 20 ?_
    refine And.intro T.1 ⟨Nat.le_of_ble_eq_true rfl, Nat.le_refl _, Nat.le_refl _, ?_⟩
    refine And.intro T.1 (And.intro (Nat.le_of_ble_eq_true rfl) (And.intro (Nat.le_of_ble_eq_true rfl) ⟨0, 0, _, Nat.le_refl _, Nat.le_refl _, key, fun v m' hq => ?_⟩))
    obtain ⟨rfl, rfl⟩ := hq
    exact ⟨Nat.le_refl _, Nat.le_refl _, trivial, rfl, rfl⟩
  rw [← hrow, ← V.2.1] at fin
  have fin2 : X0 17 [(0, .ref h), (1, .int (nI a))] [] (uI m p (nI a).toNatClampNeg (nI d)) 0 0 := by
    rw [nI_c (by omega)]; exact fin
  refine jm_run hX [(17, [0, 1])] 20 ?_
  refine And.intro (fun g => absurd g (nI_pos (by omega))) (fun _ => ?_)
  refine And.intro (fun g => absurd g (nI_ge ha (by decide))) (fun _ => ?_)
  refine And.intro T.1 ⟨some p, T.2.1, ?_⟩
  exact And.intro T.2.2.1 (And.intro (vin13 T.2.2.2 ha) fin2)
theorem c_Wh_shiftUp {m : jm_M} {h p X s : Nat} (T : whT m h p) (V : whV m h p X) (hs : s < 30) (hZ : X * 2 ^ s < wB ^ 13) : jm_C l D ca n_Wh_shiftUp [.ref h, .int (nI s)] m 0 0 (fun v m' => v = none ∧ m' = whS m h p (X * 2 ^ s)) := by
  refine jm_C_of (cd := cd_Wh_shiftUp) (ini := false) (by decide +kernel) ok_Wh_shiftUp (fun h => by cases h) (Nat.le_of_ble_eq_true rfl) ?_
  intro X0 hX
  have hux := wu_le X
  have h2s : 2 ^ s < 1073741824 := Nat.pow_lt_pow_right (a := 2) (m := s) (n := 30) (by decide) hs
  generalize hS2 : 2 ^ s = s2 at hZ h2s
  generalize hE : min (wu X + 1) 13 = E
  have hE13 : E ≤ 13 := by omega
  have hXE : X < wB ^ E := by
    rcases Nat.lt_or_ge (wu X + 1) 13 with g | g
    · exact Nat.lt_of_lt_of_le (wu_lt V.1) (Nat.pow_le_pow_right (by decide) (by omega))
    · rw [show E = 13 by omega]; exact V.1
  have hZE : X * s2 < wB ^ E := by
    rcases Nat.lt_or_ge (wu X + 1) 13 with g | g
    · rw [show E = wu X + 1 by omega, Nat.pow_succ]
      have h1 := wu_lt V.1
      have h3 : (X + 1) * wB ≤ wB ^ wu X * wB := Nat.mul_le_mul_right _ h1
      have h4 : X * s2 ≤ X * wB := Nat.mul_le_mul_left _ (Nat.le_of_lt h2s)
      rw [Nat.add_mul] at h3
      have h5 : 1 * wB = 1073741824 := rfl
      omega
    · rw [show E = 13 by omega]; exact hZ
  let P : Nat → Nat := fun i => X % wB ^ i * s2
  have hP : ∀ i, P (i + 1) = P i + (wl X i * s2) * wB ^ i := by
    intro i
    show X % wB ^ (i + 1) * s2 = X % wB ^ i * s2 + wl X i * s2 * wB ^ i
    rw [wl_div X i, Nat.add_mul, Nat.mul_right_comm]
  have hPm : ∀ i, wl (P (i + 1)) i = wl (X * s2) i := by
    intro i
    refine wl_congr ?_
    show (X % wB ^ (i + 1) * s2) % wB ^ (i + 1) = (X * s2) % wB ^ (i + 1)
    rw [Nat.mul_mod, Nat.mod_mod, ← Nat.mul_mod]
  have hc : ∀ i, P i / wB ^ i ≤ 1073741824 := by
    intro i
    have h1 : X % wB ^ i < wB ^ i := Nat.mod_lt _ (wB_pos i)
    have h3 : P i < wB ^ i * (s2 + 1) := by
      show X % wB ^ i * s2 < _
      have : X % wB ^ i * s2 ≤ wB ^ i * s2 := Nat.mul_le_mul_right _ (Nat.le_of_lt h1)
      rw [Nat.mul_add]
      have := wB_pos i
      omega
    have := Nat.div_lt_of_lt_mul h3
    omega
  have step : ∀ i, ((nI (wl X i)).toInt64 <<< ((nI s).toInt64 &&& 63)) + lN (P i / wB ^ i) = lN ((wl X i * s2) + P i / wB ^ i) := by
    intro i
    rw [lm_l (wl_lt X i), wb_shl _ (by omega), lN_add, hS2]
  have big : ∀ i, (wl X i * s2) + P i / wB ^ i < 2 ^ 64 := by
    intro i
    have h1 : wl X i < 1073741824 := wl_lt X i
    have h3 := hc i
    have h4 : wl X i * s2 ≤ 1073741824 * 1073741824 := Nat.mul_le_mul (Nat.le_of_lt h1) (Nat.le_of_lt h2s)
    omega
  have fin : X0 65 [(0, .ref h), (4, .int (nI E))] [] (uA m p (wr (X * s2))) 0 0 := by
    refine jm_run hX [] 20 ?_
    refine And.intro T.1 (And.intro (Nat.le_of_ble_eq_true rfl) (And.intro (Nat.le_of_ble_eq_true rfl) ⟨0, 0, _, Nat.le_refl _, Nat.le_refl _, c_Wh_dropZeros (m := uA m p (wr (X * s2))) (p := p) (X := X * s2) (f := E) T (va_up_self _ _ _) (by omega) (by rw [Nat.min_eq_left hE13]; exact hZE), fun v m' hq => ?_⟩))
    obtain ⟨rfl, rfl⟩ := hq
    exact ⟨Nat.le_refl _, Nat.le_refl _, trivial, rfl, by rw [hS2]⟩
  have loop : ∀ (d i : Nat), i + d = E → X0 18 [(0, .ref h), (1, .int (nI s)), (2, .long (lN (P i / wB ^ i))), (4, .int (nI E)), (5, .int (nI i))] [] (uA m p (wm (X * s2) X i)) 0 0 := by
    intro d
    induction d with
    | zero =>
      intro i hi
      refine jm_run hX [(65, [0, 4])] 10 ?_
      refine And.intro (fun h0 => ?_) (fun h0 => absurd (nI_le (show E ≤ i by omega) (by omega)) h0)
      rw [show i = E by omega, wm_end hZE hXE]
      exact fin
    | succ d ih =>
      intro i hi
      have e0 : (nI i).toNatClampNeg = i := nI_c (by omega)
      have e1 : (uA m p (wm (X * s2) X i)).2.2.1 p (nI i).toNatClampNeg = nI (wl X i) := by
        rw [e0]; show va_up m.2.2.1 p _ p i = _; rw [va_up_self, wm_at]
      have k := ih (i + 1) (by omega)
      rw [← cy_next (t := fun i => wl X i * s2) (hP i), ← wm_s, ← hPm i, ← cy_dig (t := fun i => wl X i * s2) (hP i), ← uI_uA, ← lm_mask (big i), ← lm_shr (big i), ← step i, ← e1, ← nI_1] at k
      refine jm_run hX [(18, [0, 1, 2, 4, 5])] 40 ?_
      refine And.intro (fun h0 => absurd h0 (nI_ge (show i < E by omega) (by omega))) (fun _ => ?_)
      refine And.intro T.1 ⟨some p, T.2.1, ?_⟩
      refine And.intro T.2.2.1 (And.intro (vin13 T.2.2.2 (by omega)) ?_)
      refine And.intro T.1 ⟨some p, T.2.1, ?_⟩
      refine And.intro T.2.2.1 (And.intro (vin13 T.2.2.2 (by omega)) ?_)
      rw [e0] at k ⊢
      exact k
  have k0 := loop E 0 (by omega)
  rw [wm_0, show (fun j => nI (wl X j)) = m.2.2.1 p from V.2.1.symm, uA_id, show P 0 / wB ^ 0 = 0 by
    show (X % wB ^ 0 * s2) / wB ^ 0 = 0
    rw [Nat.pow_zero, Nat.mod_one, Nat.zero_mul], ← hE, ← nI_min (by omega) (by omega), ← nI_1 (wu X), ← V.2.2] at k0
  refine jm_run hX [(18, [0, 1, 2, 4, 5])] 40 ?_
  refine And.intro T.1 ⟨Nat.le_of_ble_eq_true rfl, Nat.le_refl _, Nat.le_refl _, ?_⟩
  exact k0
end WH4
