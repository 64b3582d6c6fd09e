theorem wu_pos {U : Nat} (hU : U < wB ^ 13) (h0 : 0 < U) : 1 ≤ wu U ∧ wl U (wu U - 1) = U / wB ^ (wu U - 1) ∧ 1 ≤ U / wB ^ (wu U - 1) := by
  have h1 : 1 ≤ wu U := by
    rcases Nat.eq_zero_or_pos (wu U) with q | q
    · have := (wu_zero hU).mp q; omega
    · exact q
  have h2 := wu_lt hU
  rw [show wu U = (wu U - 1) + 1 by omega] at h2
  exact ⟨h1, wl_top h2, Nat.div_pos (wu_ge hU (by omega)) (wB_pos _)⟩
/-- a power of two lifts the top limb, and no more -/
theorem wu_shift {U s : Nat} (hU : U < wB ^ 13) (h0 : 0 < U) (h1 : 2 ^ (29 - s) ≤ wl U (wu U - 1)) (h2 : wl U (wu U - 1) < 2 ^ (30 - s)) (hs : s ≤ 29) : wu (U * 2 ^ s) = wu U ∧ 1073741824 ≤ 2 * wl (U * 2 ^ s) (wu U - 1) := by
  obtain ⟨p1, p2, p3⟩ := wu_pos hU h0
  have hle := wu_le U
  generalize hu : wu U = u at *
  rw [p2] at h1 h2
  have hpow : 2 ^ (30 - s) * 2 ^ s = 1073741824 := by
    rw [← Nat.pow_add, show 30 - s + s = 30 by omega]
  have hpow2 : 2 ^ (29 - s) * 2 ^ s = 536870912 := by
    rw [← Nat.pow_add, show 29 - s + s = 29 by omega]
  have hMp := wB_pos (u - 1)
  have a1 : U < wB ^ (u - 1) * 2 ^ (30 - s) := by
    have := Nat.lt_mul_div_succ U hMp
    exact Nat.lt_of_lt_of_le this (Nat.mul_le_mul_left _ h2)
  have a2 : wB ^ (u - 1) * 2 ^ (29 - s) ≤ U := Nat.le_trans (Nat.mul_le_mul_left _ h1) (Nat.mul_div_le _ _)
  have b1 : U * 2 ^ s < wB ^ (u - 1) * 1073741824 := by
    have := Nat.mul_lt_mul_of_pos_right a1 (show 0 < 2 ^ s from Nat.pow_pos (by decide))
    rw [Nat.mul_assoc, hpow] at this
    exact this
  have b2 : wB ^ (u - 1) * 536870912 ≤ U * 2 ^ s := by
    have := Nat.mul_le_mul_right (2 ^ s) a2
    rw [Nat.mul_assoc, hpow2] at this
    exact this
  have b3 : U * 2 ^ s < wB ^ ((u - 1) + 1) := by rw [Nat.pow_succ]; exact b1
  have b4 : wl (U * 2 ^ s) (u - 1) = U * 2 ^ s / wB ^ (u - 1) := wl_top b3
  have b5 : 536870912 ≤ U * 2 ^ s / wB ^ (u - 1) := by
    rw [Nat.le_div_iff_mul_le hMp, Nat.mul_comm]; exact b2
  refine ⟨?_, by rw [b4]; omega⟩
  refine wu_top hle (by rw [show u = (u - 1) + 1 by omega]; exact b3) (Or.inr ?_)
  rw [b4]; omega
theorem wl_div0 {Q k : Nat} (h : Q % wB ^ (k + 1) = 0) : wl Q k = 0 := by
  rw [← wl_mod, h]
  unfold wl
  rw [Nat.zero_div]; rfl
section DV3
variable {l : Launch} {D : va_G} {ca : Nat → ClassId}
theorem c_Dv_divide {m : jm_M} {ad V : Nat → Nat} {ia iu : Nat} (S : SST m ad) (hV : WV m ad V) (hia : ia < 132) (hiu : iu < 132) (ha : ia ≠ 114 ∧ ia ≠ 115 ∧ ia ≠ 116) (hu : iu ≠ 114 ∧ iu ≠ 115 ∧ iu ≠ 116) (hA : V ia < wB ^ 12) (hU : V iu < wB ^ 12) : jm_C l D ca n_Dv_divide [.ref (ad 4), .ref (ad (100 + 2 * ia)), .ref (ad (100 + 2 * iu))] m 0 0 (fun v m' => v = none ∧ FRW ad m m' ∧ ∃ z, WV m' ad (va_up (va_up (va_up V 114 (V ia / V iu)) 115 (V ia % V iu)) 116 z)) := by
  refine jm_C_of (cd := cd_Dv_divide) (ini := false) (by decide +kernel) ok_Dv_divide (fun h => by cases h) (Nat.le_of_ble_eq_true rfl) ?_
  intro X0 hX
  have h1213 : wB ^ 12 * 1073741824 = wB ^ 13 := (Nat.pow_succ (n := wB) (m := 12)).symm
  have hA13 : V ia < wB ^ 13 := by omega
  have hU13 : V iu < wB ^ 13 := by omega
  have od : ∀ {m' : jm_M}, SST m' ad → jm_ok m' (ad 4) 0 := fun S => S.ok 4 (Or.inl (by decide))
  have rq : ∀ {m' : jm_M}, SST m' ad → m'.2.2.2.2 (ad 4) 0 = some (ad 328) := fun S => S.2.2.1 (4, 0, 328) (by decide)
  have rr : ∀ {m' : jm_M}, SST m' ad → m'.2.2.2.2 (ad 4) 1 = some (ad 330) := fun S => S.2.2.1 (4, 1, 330) (by decide)
  have rs : ∀ {m' : jm_M}, SST m' ad → m'.2.2.2.2 (ad 4) 2 = some (ad 332) := fun S => S.2.2.1 (4, 2, 332) (by decide)
  -- quotient.become(0)
  have F1 : FRW ad m (whS m (ad 328) (ad 329) 0) := FRW.wS (i := 114) (by decide)
  have S1 := F1.S S
  have V1 : WV (whS m (ad 328) (ad 329) 0) ad (va_up V 114 0) := WV.set (i := 114) S hV (by decide) (wB_pos 13)
  generalize hm1 : whS m (ad 328) (ad 329) 0 = m1 at F1 S1 V1
  -- rest.become(above)
  have F2 : FRW ad m (whS m1 (ad 330) (ad 331) (V ia)) := F1.tr (FRW.wS (i := 115) (by decide))
  have S2 := F2.S S
  have V2 : WV (whS m1 (ad 330) (ad 331) (V ia)) ad (va_up (va_up V 114 0) 115 (V ia)) := WV.set (i := 115) S1 V1 (by decide) hA13
  generalize hm2 : whS m1 (ad 330) (ad 331) (V ia) = m2 at F2 S2 V2
  have gU2 : va_up (va_up V 114 0) 115 (V ia) iu = V iu := by rw [va_up_ne _ _ hu.2.1, va_up_ne _ _ hu.1]
  have gA1 : va_up V 114 0 ia = V ia := va_up_ne _ _ ha.1
  have hneA : ad 331 ≠ ad (100 + 2 * ia) := S.ne (i := 331) (Or.inr (by decide)) (kin_o hia) (by omega)
  have key1 := c_Wh_become_1 (l := l) (D := D) (ca := ca) (V := 0) (S.wh 114 (by decide)) (hV 114 (by decide)).R (by decide)
  have key2 := c_Wh_become_2 (l := l) (D := D) (ca := ca) (S1.wh 115 (by decide)) (V1 115 (by decide)).R (S1.wh ia hia) (V1 ia hia) hneA
  rw [gA1] at key2
  have key3 := c_Wh_topLimb (l := l) (D := D) (ca := ca) (S2.wh iu hiu) (V2 iu hiu)
  rw [gU2] at key3
  refine jm_run hX [(77, [0, 4, 5]), (103, [0, 4])] 80 ?_
  refine And.intro (od S) ⟨some (ad 328), rq S, ?_⟩
  refine And.intro (S.wh 114 (by decide)).1 (And.intro (Nat.le_of_ble_eq_true rfl) (And.intro (Nat.le_of_ble_eq_true rfl) ⟨0, 0, _, Nat.le_refl _, Nat.le_refl _, key1, fun v m' hq => ?_⟩))
  obtain ⟨rfl, e⟩ := hq
  rw [show whS m (ad (100 + 2 * 114)) (ad (101 + 2 * 114)) 0 = m1 from hm1] at e
  have e := e.symm
  subst e
  refine And.intro (od S1) ⟨some (ad 330), rr S1, ?_⟩
  refine And.intro (S1.wh 115 (by decide)).1 (And.intro (Nat.le_of_ble_eq_true rfl) (And.intro (Nat.le_of_ble_eq_true rfl) ⟨0, 0, _, Nat.le_refl _, Nat.le_refl _, key2, fun v m' hq => ?_⟩))
  obtain ⟨rfl, e⟩ := hq
  rw [show whS m1 (ad (100 + 2 * 115)) (ad (101 + 2 * 115)) (V ia) = m2 from hm2] at e
  have e := e.symm
  subst e
  refine And.intro (S2.wh iu hiu).1 (And.intro (Nat.le_of_ble_eq_true rfl) (And.intro (Nat.le_of_ble_eq_true rfl) ⟨0, 0, _, Nat.le_refl _, Nat.le_refl _, key3, fun v m' hq => ?_⟩))
  obtain ⟨rfl, rfl⟩ := hq
  rcases Nat.eq_zero_or_pos (V iu) with hU0 | hU0
  · -- by 0
    have ez : nI (wl (V iu) (wu (V iu) - 1)) = 0 := by rw [hU0]; rfl
    refine And.intro (fun _ => ?_) (fun g => absurd ez g)
    refine ⟨Nat.le_refl _, Nat.le_refl _, trivial, rfl, F2, va_up (va_up V 114 0) 115 (V ia) 116, ?_⟩
    rw [hU0, Nat.div_zero, Nat.mod_zero]
    rw [va_up_id]
    exact V2
  obtain ⟨p1, p2, p3⟩ := wu_pos hU13 hU0
  have ht31 : wl (V iu) (wu (V iu) - 1) < 1073741824 := wl_lt _ _
  have ht0 : 0 < wl (V iu) (wu (V iu) - 1) := by rw [p2]; exact p3
  refine And.intro (fun g => ?_) (fun _ => ?_)
  · have g : nI (wl (V iu) (wu (V iu) - 1)) = 0 := g
    rw [← nI_0, nI_eq (by omega) (by omega)] at g
    omega
  refine ⟨Nat.le_of_ble_eq_true rfl, Nat.le_of_ble_eq_true rfl, 0, 0, _, Nat.le_refl _, Nat.le_refl _, c_In_nlz (m := m') ht0 (by omega), fun v m3 hq => ?_⟩
  obtain ⟨rfl, k, hk2, hk31, rfl, hk5, hk6⟩ := hq
  have es : nI k - 2 = nI (k - 2) := pk_sub (b := 2) hk2
  obtain ⟨q1, q2⟩ := wu_shift (s := k - 2) hU13 hU0 (by rw [show 29 - (k - 2) = 31 - k by omega]; exact hk5) (by rw [show 30 - (k - 2) = 32 - k by omega]; exact hk6) (by omega)
  generalize hsv : k - 2 = s at *
  have hs30 : s < 30 := by omega
  have h2s : 2 ^ s ≤ 1073741824 := by
    have := Nat.pow_le_pow_right (show 0 < 2 by decide) (show s ≤ 30 by omega)
    exact this
  have hAs : V ia * 2 ^ s < wB ^ 13 := by
    rw [← h1213]
    exact Nat.lt_of_le_of_lt (Nat.mul_le_mul_left _ h2s) (Nat.mul_lt_mul_of_pos_right hA (by decide))
  have hUs : V iu * 2 ^ s < wB ^ 13 := by
    rw [← h1213]
    exact Nat.lt_of_le_of_lt (Nat.mul_le_mul_left _ h2s) (Nat.mul_lt_mul_of_pos_right hU (by decide))
  -- shifted.become(under), shifted.shiftUp(s), rest.shiftUp(s)
  have F4 : FRW ad m (whS m3 (ad 332) (ad 333) (V iu)) := F2.tr (FRW.wS (i := 116) (by decide))
  have S4 := F4.S S
  have V4 : WV (whS m3 (ad 332) (ad 333) (V iu)) ad (va_up (va_up (va_up V 114 0) 115 (V ia)) 116 (V iu)) := WV.set (i := 116) S2 V2 (by decide) hU13
  have hneU : ad 333 ≠ ad (100 + 2 * iu) := S.ne (i := 333) (Or.inr (by decide)) (kin_o hiu) (by omega)
  have key4 := c_Wh_become_2 (l := l) (D := D) (ca := ca) (S2.wh 116 (by decide)) (V2 116 (by decide)).R (S2.wh iu hiu) (V2 iu hiu) hneU
  rw [gU2] at key4
  generalize hm4 : whS m3 (ad 332) (ad 333) (V iu) = m4 at F4 S4 V4
  have F5 : FRW ad m (whS m4 (ad 332) (ad 333) (V iu * 2 ^ s)) := F4.tr (FRW.wS (i := 116) (by decide))
  have S5 := F5.S S
  have V5 : WV (whS m4 (ad 332) (ad 333) (V iu * 2 ^ s)) ad (va_up (va_up (va_up (va_up V 114 0) 115 (V ia)) 116 (V iu)) 116 (V iu * 2 ^ s)) := WV.set (i := 116) S4 V4 (by decide) hUs
  rw [bx_uu] at V5
  have key5 := c_Wh_shiftUp (l := l) (D := D) (ca := ca) (s := s) (S4.wh 116 (by decide)) (V4 116 (by decide)) hs30 (by rw [va_up_self]; exact hUs)
  rw [va_up_self, ← es] at key5
  generalize hm5 : whS m4 (ad 332) (ad 333) (V iu * 2 ^ s) = m5 at F5 S5 V5
  have g115 : va_up (va_up (va_up V 114 0) 115 (V ia)) 116 (V iu * 2 ^ s) 115 = V ia := by rw [va_up_ne _ _ (by decide), va_up_self]
  have F6 : FRW ad m (whS m5 (ad 330) (ad 331) (V ia * 2 ^ s)) := F5.tr (FRW.wS (i := 115) (by decide))
  have S6 := F6.S S
  have V6 : WV (whS m5 (ad 330) (ad 331) (V ia * 2 ^ s)) ad (va_up (va_up (va_up (va_up V 114 0) 115 (V ia)) 116 (V iu * 2 ^ s)) 115 (V ia * 2 ^ s)) := WV.set (i := 115) S5 V5 (by decide) hAs
  have key6 := c_Wh_shiftUp (l := l) (D := D) (ca := ca) (s := s) (S5.wh 115 (by decide)) (V5 115 (by decide)) hs30 (by rw [g115]; exact hAs)
  rw [g115, ← es] at key6
  generalize hm6 : whS m5 (ad 330) (ad 331) (V ia * 2 ^ s) = m6 at F6 S6 V6
  refine And.intro (od S2) ⟨some (ad 332), rs S2, ?_⟩
  refine And.intro (S2.wh 116 (by decide)).1 (And.intro (Nat.le_of_ble_eq_true rfl) (And.intro (Nat.le_of_ble_eq_true rfl) ⟨0, 0, _, Nat.le_refl _, Nat.le_refl _, key4, fun v m' hq => ?_⟩))
  obtain ⟨rfl, e⟩ := hq
  rw [show whS m3 (ad (100 + 2 * 116)) (ad (101 + 2 * 116)) (V iu) = m4 from hm4] at e
  have e := e.symm
  subst e
  refine And.intro (od S4) ⟨some (ad 332), rs S4, ?_⟩
  refine And.intro (S4.wh 116 (by decide)).1 (And.intro (Nat.le_of_ble_eq_true rfl) (And.intro (Nat.le_of_ble_eq_true rfl) ⟨0, 0, _, Nat.le_refl _, Nat.le_refl _, key5, fun v m' hq => ?_⟩))
  obtain ⟨rfl, e⟩ := hq
  rw [show whS m4 (ad (100 + 2 * 116)) (ad (101 + 2 * 116)) (V iu * 2 ^ s) = m5 from hm5] at e
  have e := e.symm
  subst e
  refine And.intro (od S5) ⟨some (ad 330), rr S5, ?_⟩
  refine And.intro (S5.wh 115 (by decide)).1 (And.intro (Nat.le_of_ble_eq_true rfl) (And.intro (Nat.le_of_ble_eq_true rfl) ⟨0, 0, _, Nat.le_refl _, Nat.le_refl _, key6, fun v m' hq => ?_⟩))
  obtain ⟨rfl, e⟩ := hq
  rw [show whS m5 (ad (100 + 2 * 115)) (ad (101 + 2 * 115)) (V ia * 2 ^ s) = m6 from hm6] at e
  have e := e.symm
  subst e
  -- what they are
  have eV6 : va_up (va_up (va_up (va_up V 114 0) 115 (V ia)) 116 (V iu * 2 ^ s)) 115 (V ia * 2 ^ s) = va_up (va_up (va_up V 114 0) 116 (V iu * 2 ^ s)) 115 (V ia * 2 ^ s) := by
    rw [va_up_comm _ _ _ (show (115 : Nat) ≠ 116 by decide), bx_uu]
  rw [eV6] at V6
  generalize hA2 : V ia * 2 ^ s = A2 at *
  generalize hS2v : V iu * 2 ^ s = S2v at *
  have hS2pos : 0 < S2v := by rw [← hS2v]; exact Nat.mul_pos hU0 (Nat.pow_pos (by decide))
  have hV115 := V6 115 (by decide)
  rw [va_up_self] at hV115
  have hV116 := V6 116 (by decide)
  rw [va_up_ne _ _ (by decide), va_up_self] at hV116
  have huA := wu_le A2
  have huS := wu_le S2v
  have q1' : 1 ≤ wu S2v := by rw [q1]; exact p1
  rw [← q1] at q2
  -- the end
  have fin : ∀ (mk : jm_M) (R : Nat), SST mk ad → FRW ad m mk → WVx mk ad 115 (va_up (va_up V 114 (A2 / S2v)) 116 S2v) → mk.2.2.1 (ad 331) = wr (A2 % S2v) → mk.2.2.1 (ad 330) 1 = nI (wu A2) → X0 103 [(0, .ref (ad 4)), (4, .int (nI s))] [] mk 0 0 := by
    intro mk R Sk Fk Vk hrowk husk
    have hdm : A2 / S2v = V ia / V iu := by rw [← hA2, ← hS2v, Nat.mul_div_mul_right _ _ (Nat.pow_pos (by decide))]
    have hmm : A2 % S2v / 2 ^ s = V ia % V iu := by rw [← hA2, ← hS2v, Nat.mul_mod_mul_right, Nat.mul_div_cancel _ (Nat.pow_pos (by decide))]
    have hlt : A2 % S2v < wB ^ wu A2 := Nat.lt_of_le_of_lt (Nat.mod_le _ _) (wu_lt hAs)
    have key := c_Wh_shiftDown (l := l) (D := D) (ca := ca) (s := s) (Sk.wh 115 (by decide)) hrowk husk huA hlt hs30
    rw [hmm] at key
    refine jm_run hX [] 20 ?_
    refine And.intro (od Sk) ⟨some (ad 330), rr Sk, ?_⟩
    refine And.intro (Sk.wh 115 (by decide)).1 (And.intro (Nat.le_of_ble_eq_true rfl) (And.intro (Nat.le_of_ble_eq_true rfl) ⟨0, 0, _, Nat.le_refl _, Nat.le_refl _, key, fun v m' hq => ?_⟩))
    obtain ⟨rfl, rfl⟩ := hq
    refine ⟨Nat.le_refl _, Nat.le_refl _, trivial, rfl, Fk.tr (FRW.wS (i := 115) (by decide)), S2v, ?_⟩
    have := WVx.fix (X := V ia % V iu) Sk Vk (by decide) (Nat.lt_of_le_of_lt (Nat.mod_le _ _) hA13)
    rw [hdm, va_up_comm _ _ _ (show (116 : Nat) ≠ 115 by decide)] at this
    exact this
  have loop : ∀ (k Q R : Nat) (mk : jm_M), k + wu S2v ≤ wu A2 + 1 → SST mk ad → FRW ad m mk → WVx mk ad 115 (va_up (va_up V 114 Q) 116 S2v) → mk.2.2.1 (ad 331) = wr R → mk.2.2.1 (ad 330) 1 = nI (wu A2) → R + Q * S2v = A2 → R < S2v * wB ^ k → Q % wB ^ k = 0 → X0 77 [(0, .ref (ad 4)), (4, .int (nI s)), (5, .int (nI k + (-1)))] [] mk 0 0 := by
    intro k
    induction k with
    | zero =>
      intro Q R mk hk Sk Fk Vk hrowk husk hsum hRl hQk
      rw [Nat.pow_zero, Nat.mul_one] at hRl
      have e1 : A2 / S2v = Q := by rw [← hsum, Nat.add_mul_div_right _ _ hS2pos, Nat.div_eq_of_lt hRl, Nat.zero_add]
      have e2 : A2 % S2v = R := by rw [← hsum, Nat.add_mul_mod_self_right, Nat.mod_eq_of_lt hRl]
      refine jm_run hX [(103, [0, 4])] 10 ?_
      refine And.intro (fun _ => fin mk R Sk Fk (by rw [e1]; exact Vk) (by rw [e2]; exact hrowk) husk) (fun g => absurd (by decide) g)
    | succ k ih =>
      intro Q R mk hk Sk Fk Vk hrowk husk hsum hRl hQk
      have e4 : nI (k + 1) + (-1) = nI k := pk_m1 k
      rw [e4]
      have hRA : R ≤ A2 := by omega
      have hR13 : R < wB ^ 13 := by omega
      have gS : va_up (va_up V 114 Q) 116 S2v 116 = S2v := va_up_self _ _ _
      have gQ : va_up (va_up V 114 Q) 116 S2v 114 = Q := by rw [va_up_ne _ _ (by decide), va_up_self]
      have hR1 : R / wB ^ k < S2v * wB := by
        refine Nat.div_lt_of_lt_mul ?_
        rw [Nat.mul_comm, Nat.mul_assoc, Nat.mul_comm wB, ← Nat.pow_succ]
        exact hRl
      have hR' : R % wB ^ k + R / wB ^ k % S2v * wB ^ k + (R / wB ^ k / S2v * wB ^ k) * S2v = R := by
        have a1 := Nat.div_add_mod R (wB ^ k)
        have a2 := Nat.div_add_mod (R / wB ^ k) S2v
        have a3 : wB ^ k * (R / wB ^ k) = (S2v * (R / wB ^ k / S2v) + R / wB ^ k % S2v) * wB ^ k := by rw [a2, Nat.mul_comm]
        rw [Nat.add_mul] at a3
        have a4 : R / wB ^ k / S2v * wB ^ k * S2v = S2v * (R / wB ^ k / S2v) * wB ^ k := by
          rw [Nat.mul_comm, Nat.mul_assoc]
        omega
      have hd : R / wB ^ k / S2v < wB := Nat.div_lt_of_lt_mul hR1
      have key := c_Dv_nextDigit (l := l) (D := D) (ca := ca) (a := k) Sk Vk hrowk hR13 (by rw [gS]; exact q1') (by rw [gS]; exact q2) (by rw [gS]; omega) (by rw [gS]; exact hR1)
      rw [gS] at key
      have F7 : FRW ad m (uA mk (ad 331) (wr (R % wB ^ k + R / wB ^ k % S2v * wB ^ k))) := Fk.tr (FRW.uA (i := 115) (by decide))
      have S7 := F7.S S
      have V7 := WVx.row (g := wr (R % wB ^ k + R / wB ^ k % S2v * wB ^ k)) Sk Vk (by decide)
      have hrow7 : (uA mk (ad 331) (wr (R % wB ^ k + R / wB ^ k % S2v * wB ^ k))).2.2.1 (ad 331) = wr (R % wB ^ k + R / wB ^ k % S2v * wB ^ k) := va_up_self _ _ _
      have hus7 : (uA mk (ad 331) (wr (R % wB ^ k + R / wB ^ k % S2v * wB ^ k))).2.2.1 (ad 330) 1 = nI (wu A2) := by
        show va_up mk.2.2.1 (ad 331) _ (ad 330) 1 = _
        rw [va_up_ne _ _ (S.ne (i := 330) (j := 331) (Or.inr (by decide)) (Or.inr (by decide)) (by decide))]
        exact husk
      have V7' : WVx (uA mk (ad 331) (wr (R % wB ^ k + R / wB ^ k % S2v * wB ^ k))) ad 115 (va_up (va_up V 114 Q) 116 S2v) := V7
      generalize uA mk (ad 331) (wr (R % wB ^ k + R / wB ^ k % S2v * wB ^ k)) = m7 at F7 S7 V7' hrow7 hus7 key
      have V114 := V7' 114 (by decide) (by decide)
      rw [gQ] at V114
      have hk13 : k < 13 := by omega
      have hwl : wl Q k = 0 := wl_div0 hQk
      have key7 := c_Wh_setLimb (l := l) (D := D) (ca := ca) (a := k) (d := R / wB ^ k / S2v) (S7.wh 114 (by decide)) V114 hk13 hwl hd
      have hQ13 := (wl_put V114.1 hk13 hwl hd).1
      have F8 : FRW ad m (whS m7 (ad 328) (ad 329) (Q + R / wB ^ k / S2v * wB ^ k)) := F7.tr (FRW.wS (i := 114) (by decide))
      have S8 := F8.S S
      have V8 := WVx.set (i := 114) S7 V7' (by decide) hQ13
      rw [va_up_comm _ _ _ (show (116 : Nat) ≠ 114 by decide), bx_uu] at V8
      have hrow8 : (whS m7 (ad 328) (ad 329) (Q + R / wB ^ k / S2v * wB ^ k)).2.2.1 (ad 331) = wr (R % wB ^ k + R / wB ^ k % S2v * wB ^ k) := by
        show va_up (va_up m7.2.2.1 (ad 329) _) (ad 328) _ (ad 331) = _
        rw [va_up_ne _ _ (S.ne (i := 331) (j := 328) (Or.inr (by decide)) (Or.inr (by decide)) (by decide)), va_up_ne _ _ (S.ne (i := 331) (j := 329) (Or.inr (by decide)) (Or.inr (by decide)) (by decide))]
        exact hrow7
      have hus8 : (whS m7 (ad 328) (ad 329) (Q + R / wB ^ k / S2v * wB ^ k)).2.2.1 (ad 330) 1 = nI (wu A2) := by
        show va_up (va_up m7.2.2.1 (ad 329) _) (ad 328) _ (ad 330) 1 = _
        rw [va_up_ne _ _ (S.ne (i := 330) (j := 328) (Or.inr (by decide)) (Or.inr (by decide)) (by decide)), va_up_ne _ _ (S.ne (i := 330) (j := 329) (Or.inr (by decide)) (Or.inr (by decide)) (by decide))]
        exact hus7
      have kk := ih (Q + R / wB ^ k / S2v * wB ^ k) (R % wB ^ k + R / wB ^ k % S2v * wB ^ k) _ (by omega) S8 F8 V8 hrow8 hus8 (by rw [Nat.add_mul]; omega) (by
        have h1 : R % wB ^ k < wB ^ k := Nat.mod_lt _ (wB_pos k)
        have h2 : R / wB ^ k % S2v < S2v := Nat.mod_lt _ hS2pos
        have h3 : (R / wB ^ k % S2v + 1) * wB ^ k ≤ S2v * wB ^ k := Nat.mul_le_mul_right _ h2
        rw [Nat.add_mul, Nat.one_mul] at h3
        omega) (by
        rw [Nat.add_mul_mod_self_right]
        have e : wB ^ (k + 1) = wB ^ k * wB := Nat.pow_succ ..
        have := Nat.mod_mul_right_mod Q (wB ^ k) wB
        rw [← e, hQk, Nat.zero_mod] at this
        exact this.symm)
      refine jm_run hX [(77, [0, 4, 5]), (103, [0, 4])] 40 ?_
      refine And.intro (fun g => absurd g (nI_pos (by omega))) (fun _ => ?_)
      refine And.intro (od Sk) ⟨some (ad 328), rq Sk, ?_⟩
      refine And.intro (od Sk) (And.intro (Nat.le_of_ble_eq_true rfl) (And.intro (Nat.le_of_ble_eq_true rfl) ⟨0, 0, _, Nat.le_refl _, Nat.le_refl _, key, fun v m' hq => ?_⟩))
      obtain ⟨rfl, rfl⟩ := hq
      refine And.intro (S7.wh 114 (by decide)).1 (And.intro (Nat.le_of_ble_eq_true rfl) (And.intro (Nat.le_of_ble_eq_true rfl) ⟨0, 0, _, Nat.le_refl _, Nat.le_refl _, key7, fun v m' hq => ?_⟩))
      obtain ⟨rfl, rfl⟩ := hq
      exact kk
  refine And.intro (od S6) ⟨some (ad 330), rr S6, And.intro (S6.wh 115 (by decide)).1 ?_⟩
  refine And.intro (od S6) ⟨some (ad 332), rs S6, And.intro (S6.wh 116 (by decide)).1 ?_⟩
  have V6x : WVx m6 ad 115 (va_up (va_up V 114 0) 116 S2v) := fun i hi hix => by
    have := V6 i hi
    rw [va_up_ne _ _ hix] at this
    exact this
  have eat : m6.2.2.1 (ad 330) 1 - m6.2.2.1 (ad 332) 1 = nI (wu A2) - nI (wu S2v) := by
    rw [show m6.2.2.1 (ad 330) 1 = nI (wu A2) from hV115.2.2, show m6.2.2.1 (ad 332) 1 = nI (wu S2v) from hV116.2.2]
  rcases Nat.lt_or_ge (wu A2) (wu S2v) with hlt | hge
  · -- less than the divisor: no digit
    have hAS : A2 < S2v := by
      have h1 := wu_lt hAs
      have h2 := wu_ge hUs hlt
      omega
    have kf := fin m6 A2 S6 F6 (by rw [Nat.div_eq_of_lt hAS]; exact V6x) (by rw [Nat.mod_eq_of_lt hAS]; exact hV115.2.1) hV115.2.2
    have k77 : X0 77 [(0, .ref (ad 4)), (4, .int (nI s)), (5, .int (nI (wu A2) - nI (wu S2v)))] [] m6 0 0 := by
      refine jm_run hX [(103, [0, 4])] 10 ?_
      refine And.intro (fun _ => kf) (fun g => ?_)
      exact absurd (pk_sneg (by omega) hlt) g
    rw [← eat, ← es] at k77
    exact k77
  · have k77 := loop (wu A2 - wu S2v + 1) 0 A2 m6 (by omega) S6 F6 V6x hV115.2.1 hV115.2.2 (by rw [Nat.zero_mul]; rfl) (by
      have h1 := wu_lt hAs
      have h2 := wu_ge hUs (show wu S2v - 1 < wu S2v by omega)
      have h3 : wB ^ (wu S2v - 1) * wB ^ (wu A2 - wu S2v + 1) ≤ S2v * wB ^ (wu A2 - wu S2v + 1) := Nat.mul_le_mul_right _ h2
      rw [← Nat.pow_add, show wu S2v - 1 + (wu A2 - wu S2v + 1) = wu A2 by omega] at h3
      omega) (Nat.zero_mod _)
    rw [pk_m1, ← pk_sub hge, ← eat, ← es] at k77
    exact k77
end DV3
