/-! Parts of a fraction. -/
def prem (A U : Nat) : Nat → Nat
  | 0 => A % U
  | j + 1 => prem A U j * 1000000000 % U
def ppart (A U : Nat) : Nat → Nat
  | 0 => A / U
  | j + 1 => prem A U j * 1000000000 / U
theorem prem_lt {A U : Nat} (hU : 0 < U) : ∀ j, prem A U j < U
  | 0 => Nat.mod_lt _ hU
  | _ + 1 => Nat.mod_lt _ hU
/-- the same numbers but for those of Division -/
def sameV (V V' : Nat → Nat) : Prop := ∀ i, i < 132 → i ≠ 114 → i ≠ 115 → i ≠ 116 → i ≠ 117 → V' i = V i
theorem sameV.tr {V1 V2 V3 : Nat → Nat} (h : sameV V1 V2) (g : sameV V2 V3) : sameV V1 V3 := fun i a b c d e => (g i a b c d e).trans (h i a b c d e)
section DV4
variable {l : Launch} {D : va_G} {ca : Nat → ClassId}
theorem c_Dv_partOf {m : jm_M} {ad V : Nat → Nat} {ia iu pt : Nat} (S : SST m ad) (hV : WV m ad V) (hia : ia < 132) (hiu : iu < 132) (ha : ia ≠ 114 ∧ ia ≠ 115 ∧ ia ≠ 116) (hu : iu ≠ 114 ∧ iu ≠ 115 ∧ iu ≠ 116 ∧ iu ≠ 117) (hA : V ia < wB ^ 12) (hU : V iu < wB ^ 11) (hU0 : 0 < V iu) (hpt : pt ≤ 6) : jm_C l D ca n_Dv_partOf [.ref (ad 4), .ref (ad (100 + 2 * ia)), .ref (ad (100 + 2 * iu)), .int (nI pt)] m 0 0 (fun v m' => v = some (.long (lN (ppart (V ia) (V iu) pt))) ∧ FRW ad m m' ∧ ∃ V', WV m' ad V' ∧ sameV V V') := by
  refine jm_C_of (cd := cd_Dv_partOf) (ini := false) (by decide +kernel) ok_Dv_partOf (fun h => by cases h) (Nat.le_of_ble_eq_true rfl) ?_
  intro X0 hX
  have h1112 : wB ^ 11 * 1073741824 = wB ^ 12 := (Nat.pow_succ (n := wB) (m := 11)).symm
  have hU12 : V iu < wB ^ 12 := by omega
  have h1213 : wB ^ 12 * 1073741824 = wB ^ 13 := (Nat.pow_succ (n := wB) (m := 12)).symm
  have od : ∀ {m' : jm_M}, SST m' ad → jm_ok m' (ad 4) 0 := fun S => S.ok 4 (Or.inl (by decide))
  have rq : ∀ {m' : jm_M}, SST m' ad → m'.2.2.2.2 (ad 4) 0 = some (ad 328) := fun S => S.2.2.1 (4, 0, 328) (by decide)
  have rr : ∀ {m' : jm_M}, SST m' ad → m'.2.2.2.2 (ad 4) 1 = some (ad 330) := fun S => S.2.2.1 (4, 1, 330) (by decide)
  have rx : ∀ {m' : jm_M}, SST m' ad → m'.2.2.2.2 (ad 4) 3 = some (ad 334) := fun S => S.2.2.1 (4, 3, 334) (by decide)
  have loop : ∀ (d j : Nat) (mk : jm_M) (Vk : Nat → Nat), j + d = pt → SST mk ad → FRW ad m mk → WV mk ad Vk → sameV V Vk → Vk 114 = ppart (V ia) (V iu) j → Vk 115 = prem (V ia) (V iu) j → X0 9 [(0, .ref (ad 4)), (2, .ref (ad (100 + 2 * iu))), (3, .int (nI pt)), (4, .int (nI j))] [] mk 0 0 := by
    intro d
    induction d with
    | zero =>
      intro j mk Vk hj Sk Fk WVk hs h114 h115
      have key := c_Wh_lowestBits (l := l) (D := D) (ca := ca) (Sk.wh 114 (by decide)) (WVk 114 (by decide))
      refine jm_run hX [] 20 ?_
      refine And.intro (fun _ => ?_) (fun g => absurd (nI_le (show pt ≤ j by omega) (by omega)) g)
      refine And.intro (od Sk) ⟨some (ad 328), rq Sk, ?_⟩
      refine And.intro (Sk.wh 114 (by decide)).1 (And.intro (Nat.le_of_ble_eq_true rfl) (And.intro (Nat.le_of_ble_eq_true rfl) ⟨0, 0, _, Nat.le_refl _, Nat.le_refl _, key, fun v m' hq => ?_⟩))
      obtain ⟨rfl, rfl⟩ := hq
      refine ⟨Nat.le_refl _, Nat.le_refl _, trivial, ?_, Fk, Vk, WVk, hs⟩
      rw [h114, show j = pt by omega]
    | succ d ih =>
      intro j mk Vk hj Sk Fk WVk hs h114 h115
      have hprem := prem_lt (A := V ia) hU0 j
      have hnext : prem (V ia) (V iu) j * 1000000000 < wB ^ 12 := by
        rw [← h1112]
        have h1 : prem (V ia) (V iu) j * 1000000000 ≤ V iu * 1000000000 := Nat.mul_le_mul_right _ (Nat.le_of_lt hprem)
        omega
      -- next.become(0)
      have key1 := c_Wh_become_1 (l := l) (D := D) (ca := ca) (V := 0) (Sk.wh 117 (by decide)) (WVk 117 (by decide)).R (by decide)
      have F1 : FRW ad m (whS mk (ad 334) (ad 335) 0) := Fk.tr (FRW.wS (i := 117) (by decide))
      have S1 := F1.S S
      have V1 : WV (whS mk (ad 334) (ad 335) 0) ad (va_up Vk 117 0) := WV.set (i := 117) Sk WVk (by decide) (wB_pos 13)
      generalize hm1 : whS mk (ad 334) (ad 335) 0 = m1 at F1 S1 V1
      -- next.addTimes(rest, 10^9)
      have g117 : va_up Vk 117 0 117 = 0 := va_up_self _ _ _
      have g115 : va_up Vk 117 0 115 = prem (V ia) (V iu) j := by rw [va_up_ne _ _ (by decide)]; exact h115
      have hn1 : ad 335 ≠ ad 331 := S.ne (i := 335) (j := 331) (Or.inr (by decide)) (Or.inr (by decide)) (by decide)
      have ezn : 0 + 1000000000 * prem (V ia) (V iu) j = prem (V ia) (V iu) j * 1000000000 := by omega
      have key2 := c_Wh_addTimes (l := l) (D := D) (ca := ca) (F := 1000000000) (S1.wh 117 (by decide)) (V1 117 (by decide)) (S1.wh 115 (by decide)) (V1 115 (by decide)) hn1 (by decide) (by rw [g117, g115, ezn]; omega)
      rw [g117, g115, ezn] at key2
      have F2 : FRW ad m (whS m1 (ad 334) (ad 335) (prem (V ia) (V iu) j * 1000000000)) := F1.tr (FRW.wS (i := 117) (by decide))
      have S2 := F2.S S
      have V2 : WV (whS m1 (ad 334) (ad 335) (prem (V ia) (V iu) j * 1000000000)) ad (va_up (va_up Vk 117 0) 117 (prem (V ia) (V iu) j * 1000000000)) := WV.set (i := 117) S1 V1 (by decide) (by omega)
      rw [bx_uu] at V2
      generalize hm2 : whS m1 (ad 334) (ad 335) (prem (V ia) (V iu) j * 1000000000) = m2 at F2 S2 V2
      -- divide(next, under)
      have gU : va_up Vk 117 (prem (V ia) (V iu) j * 1000000000) iu = V iu := by rw [va_up_ne _ _ hu.2.2.2]; exact hs iu hiu hu.1 hu.2.1 hu.2.2.1 hu.2.2.2
      have gX : va_up Vk 117 (prem (V ia) (V iu) j * 1000000000) 117 = prem (V ia) (V iu) j * 1000000000 := va_up_self _ _ _
      have key3 := c_Dv_divide (l := l) (D := D) (ca := ca) (ia := 117) (iu := iu) S2 V2 (by decide) hiu ⟨by decide, by decide, by decide⟩ ⟨hu.1, hu.2.1, hu.2.2.1⟩ (by rw [gX]; exact hnext) (by rw [gU]; exact hU12)
      rw [gX, gU] at key3
      refine jm_run hX [(9, [0, 2, 3, 4])] 40 ?_
      refine And.intro (fun g => absurd g (nI_ge (show j < pt by omega) (by omega))) (fun _ => ?_)
      refine And.intro (od Sk) ⟨some (ad 334), rx Sk, ?_⟩
      refine And.intro (Sk.wh 117 (by decide)).1 (And.intro (Nat.le_of_ble_eq_true rfl) (And.intro (Nat.le_of_ble_eq_true rfl) ⟨0, 0, _, Nat.le_refl _, Nat.le_refl _, key1, fun v m' hq => ?_⟩))
      obtain ⟨rfl, e⟩ := hq
      rw [show whS mk (ad (100 + 2 * 117)) (ad (101 + 2 * 117)) 0 = m1 from hm1] at e
      have e := e.symm
      subst e
      refine And.intro (od S1) ⟨some (ad 334), rx S1, ?_⟩
      refine And.intro (od S1) ⟨some (ad 330), rr S1, ?_⟩
      refine And.intro (S1.wh 117 (by decide)).1 (And.intro (Nat.le_of_ble_eq_true rfl) (And.intro (Nat.le_of_ble_eq_true rfl) ⟨0, 0, _, Nat.le_refl _, Nat.le_refl _, key2, fun v m' hq => ?_⟩))
      obtain ⟨rfl, e⟩ := hq
      rw [show whS m1 (ad (100 + 2 * 117)) (ad (101 + 2 * 117)) (prem (V ia) (V iu) j * 1000000000) = m2 from hm2] at e
      have e := e.symm
      subst e
      refine And.intro (od S2) ⟨some (ad 334), rx S2, ?_⟩
      refine And.intro (od S2) (And.intro (Nat.le_of_ble_eq_true rfl) (And.intro (Nat.le_of_ble_eq_true rfl) ⟨0, 0, _, Nat.le_refl _, Nat.le_refl _, key3, fun v m3 hq => ?_⟩))
      obtain ⟨rfl, F3, z, V3⟩ := hq
      have k := ih (j + 1) m3 _ (by omega) (F3.S S2) (F2.tr F3) V3 (hs.tr (fun i hi a b c d => by
        rw [va_up_ne _ _ c, va_up_ne _ _ b, va_up_ne _ _ a, va_up_ne _ _ d])) (by
        rw [va_up_ne _ _ (by decide), va_up_ne _ _ (by decide), va_up_self]; rfl) (by
        rw [va_up_ne _ _ (by decide), va_up_self]; rfl)
      rw [← nI_1] at k
      exact k
  have key0 := c_Dv_divide (l := l) (D := D) (ca := ca) (ia := ia) (iu := iu) S hV hia hiu ha ⟨hu.1, hu.2.1, hu.2.2.1⟩ hA hU12
  refine jm_run hX [(9, [0, 2, 3, 4])] 40 ?_
  refine And.intro (od S) (And.intro (Nat.le_of_ble_eq_true rfl) (And.intro (Nat.le_of_ble_eq_true rfl) ⟨0, 0, _, Nat.le_refl _, Nat.le_refl _, key0, fun v m' hq => ?_⟩))
  obtain ⟨rfl, F3, z, V3⟩ := hq
  exact loop pt 0 m' _ (by omega) (F3.S S) F3 V3 (fun i hi a b c d => by
    rw [va_up_ne _ _ c, va_up_ne _ _ b, va_up_ne _ _ a]) (by
    rw [va_up_ne _ _ (by decide), va_up_ne _ _ (by decide), va_up_self]; rfl) (by
    rw [va_up_ne _ _ (by decide), va_up_self]; rfl)
/-- a part of - A / U -/
def npart (A U pt : Nat) : Int64 := if A % U = 0 then (if pt = 0 then - lN (A / U) else 0) else if pt = 0 then - lN (A / U) - 1 else lN (ppart (U - A % U) U pt)
theorem c_Dv_partOfNegative {m : jm_M} {ad V : Nat → Nat} {ia iu pt : Nat} (S : SST m ad) (hV : WV m ad V) (hia : ia < 132) (hiu : iu < 132) (ha : ia ≠ 114 ∧ ia ≠ 115 ∧ ia ≠ 116) (hu : iu ≠ 114 ∧ iu ≠ 115 ∧ iu ≠ 116 ∧ iu ≠ 117) (hA : V ia < wB ^ 12) (hU : V iu < wB ^ 11) (hU0 : 0 < V iu) (hpt : pt ≤ 6) : jm_C l D ca n_Dv_partOfNegative [.ref (ad 4), .ref (ad (100 + 2 * ia)), .ref (ad (100 + 2 * iu)), .int (nI pt)] m 0 0 (fun v m' => v = some (.long (npart (V ia) (V iu) pt)) ∧ FRW ad m m' ∧ ∃ V', WV m' ad V' ∧ sameV V V') := by
  refine jm_C_of (cd := cd_Dv_partOfNegative) (ini := false) (by decide +kernel) ok_Dv_partOfNegative (fun h => by cases h) (Nat.le_of_ble_eq_true rfl) ?_
  intro X0 hX
  have h1112 : wB ^ 11 * 1073741824 = wB ^ 12 := (Nat.pow_succ (n := wB) (m := 11)).symm
  have hU12 : V iu < wB ^ 12 := by omega
  have h1213 : wB ^ 12 * 1073741824 = wB ^ 13 := (Nat.pow_succ (n := wB) (m := 12)).symm
  have od : ∀ {m' : jm_M}, SST m' ad → jm_ok m' (ad 4) 0 := fun S => S.ok 4 (Or.inl (by decide))
  have rq : ∀ {m' : jm_M}, SST m' ad → m'.2.2.2.2 (ad 4) 0 = some (ad 328) := fun S => S.2.2.1 (4, 0, 328) (by decide)
  have rr : ∀ {m' : jm_M}, SST m' ad → m'.2.2.2.2 (ad 4) 1 = some (ad 330) := fun S => S.2.2.1 (4, 1, 330) (by decide)
  have rx : ∀ {m' : jm_M}, SST m' ad → m'.2.2.2.2 (ad 4) 3 = some (ad 334) := fun S => S.2.2.1 (4, 3, 334) (by decide)
  have key0 := c_Dv_divide (l := l) (D := D) (ca := ca) (ia := ia) (iu := iu) S hV hia hiu ha ⟨hu.1, hu.2.1, hu.2.2.1⟩ hA hU12
  have hpt0 : nI pt = 0 ↔ pt = 0 := by rw [← nI_0, nI_eq (by omega) (by omega)]
  refine jm_run hX [] 60 ?_
  refine And.intro (od S) (And.intro (Nat.le_of_ble_eq_true rfl) (And.intro (Nat.le_of_ble_eq_true rfl) ⟨0, 0, _, Nat.le_refl _, Nat.le_refl _, key0, fun v m1 hq => ?_⟩))
  obtain ⟨rfl, F1, z, V1⟩ := hq
  have S1 := F1.S S
  have g114 : va_up (va_up (va_up V 114 (V ia / V iu)) 115 (V ia % V iu)) 116 z 114 = V ia / V iu := by rw [va_up_ne _ _ (by decide), va_up_ne _ _ (by decide), va_up_self]
  have g115 : va_up (va_up (va_up V 114 (V ia / V iu)) 115 (V ia % V iu)) 116 z 115 = V ia % V iu := by rw [va_up_ne _ _ (by decide), va_up_self]
  have gU : va_up (va_up (va_up V 114 (V ia / V iu)) 115 (V ia % V iu)) 116 z iu = V iu := by rw [va_up_ne _ _ hu.2.2.1, va_up_ne _ _ hu.2.1, va_up_ne _ _ hu.1]
  have hs1 : sameV V (va_up (va_up (va_up V 114 (V ia / V iu)) 115 (V ia % V iu)) 116 z) := fun i hi a b c d => by
    rw [va_up_ne _ _ c, va_up_ne _ _ b, va_up_ne _ _ a]
  generalize va_up (va_up (va_up V 114 (V ia / V iu)) 115 (V ia % V iu)) 116 z = W1 at *
  have key1 := c_Wh_isZero (l := l) (D := D) (ca := ca) (S1.wh 115 (by decide)) (V1 115 (by decide))
  have key2 := c_Wh_lowestBits (l := l) (D := D) (ca := ca) (S1.wh 114 (by decide)) (V1 114 (by decide))
  rw [g115] at key1
  rw [g114] at key2
  refine And.intro (od S1) ⟨some (ad 330), rr S1, ?_⟩
  refine And.intro (S1.wh 115 (by decide)).1 (And.intro (Nat.le_of_ble_eq_true rfl) (And.intro (Nat.le_of_ble_eq_true rfl) ⟨0, 0, _, Nat.le_refl _, Nat.le_refl _, key1, fun v m' hq => ?_⟩))
  obtain ⟨e, rfl⟩ := hq
  have e := e.symm
  subst e
  by_cases hr0 : V ia % V iu = 0
  · rw [if_pos hr0]
    refine And.intro (fun g => absurd g (by decide)) (fun _ => ?_)
    by_cases hp0 : pt = 0
    · refine And.intro (fun _ => ?_) (fun g => absurd (hpt0.mpr hp0) g)
      refine And.intro (od S1) ⟨some (ad 328), rq S1, ?_⟩
      refine And.intro (S1.wh 114 (by decide)).1 (And.intro (Nat.le_of_ble_eq_true rfl) (And.intro (Nat.le_of_ble_eq_true rfl) ⟨0, 0, _, Nat.le_refl _, Nat.le_refl _, key2, fun v m' hq => ?_⟩))
      obtain ⟨e, rfl⟩ := hq
      have e := e.symm
      subst e
      refine ⟨Nat.le_refl _, Nat.le_refl _, trivial, ?_, F1, W1, V1, hs1⟩
      unfold npart
      rw [if_pos hr0, if_pos hp0]
    · refine And.intro (fun g => absurd (hpt0.mp g) hp0) (fun _ => ?_)
      refine ⟨Nat.le_refl _, Nat.le_refl _, trivial, ?_, F1, W1, V1, hs1⟩
      unfold npart
      rw [if_pos hr0, if_neg hp0]
  · rw [if_neg hr0]
    refine And.intro (fun _ => ?_) (fun g => absurd rfl g)
    by_cases hp0 : pt = 0
    · refine And.intro (fun _ => ?_) (fun g => absurd (hpt0.mpr hp0) g)
      refine And.intro (od S1) ⟨some (ad 328), rq S1, ?_⟩
      refine And.intro (S1.wh 114 (by decide)).1 (And.intro (Nat.le_of_ble_eq_true rfl) (And.intro (Nat.le_of_ble_eq_true rfl) ⟨0, 0, _, Nat.le_refl _, Nat.le_refl _, key2, fun v m' hq => ?_⟩))
      obtain ⟨e, rfl⟩ := hq
      have e := e.symm
      subst e
      refine ⟨Nat.le_refl _, Nat.le_refl _, trivial, ?_, F1, W1, V1, hs1⟩
      unfold npart
      rw [if_neg hr0, if_pos hp0]
    · refine And.intro (fun g => absurd (hpt0.mp g) hp0) (fun _ => ?_)
      have hrU := Nat.mod_lt (V ia) hU0
      -- next.become(under)
      have hnU : ad 335 ≠ ad (100 + 2 * iu) := S.ne (i := 335) (Or.inr (by decide)) (kin_o hiu) (by omega)
      have key3 := c_Wh_become_2 (l := l) (D := D) (ca := ca) (S1.wh 117 (by decide)) (V1 117 (by decide)).R (S1.wh iu hiu) (V1 iu hiu) hnU
      rw [gU] at key3
      have F2 : FRW ad m (whS m1 (ad 334) (ad 335) (V iu)) := F1.tr (FRW.wS (i := 117) (by decide))
      have S2 := F2.S S
      have V2 : WV (whS m1 (ad 334) (ad 335) (V iu)) ad (va_up W1 117 (V iu)) := WV.set (i := 117) S1 V1 (by decide) (by omega)
      generalize hm2 : whS m1 (ad 334) (ad 335) (V iu) = m2 at F2 S2 V2
      -- next.subtract(rest)
      have hn1 : ad 335 ≠ ad 331 := S.ne (i := 335) (j := 331) (Or.inr (by decide)) (Or.inr (by decide)) (by decide)
      have h117 : va_up W1 117 (V iu) 117 = V iu := va_up_self _ _ _
      have h115 : va_up W1 117 (V iu) 115 = V ia % V iu := by rw [va_up_ne _ _ (by decide)]; exact g115
      have key4 := c_Wh_subtract (l := l) (D := D) (ca := ca) (S2.wh 117 (by decide)) (V2 117 (by decide)) (S2.wh 115 (by decide)) (V2 115 (by decide)) hn1 (by rw [h117, h115]; omega)
      rw [h117, h115] at key4
      have F3 : FRW ad m (whS m2 (ad 334) (ad 335) (V iu - V ia % V iu)) := F2.tr (FRW.wS (i := 117) (by decide))
      have S3 := F3.S S
      have V3 : WV (whS m2 (ad 334) (ad 335) (V iu - V ia % V iu)) ad (va_up (va_up W1 117 (V iu)) 117 (V iu - V ia % V iu)) := WV.set (i := 117) S2 V2 (by decide) (by omega)
      rw [bx_uu] at V3
      generalize hm3 : whS m2 (ad 334) (ad 335) (V iu - V ia % V iu) = m3 at F3 S3 V3
      have k117 : va_up W1 117 (V iu - V ia % V iu) 117 = V iu - V ia % V iu := va_up_self _ _ _
      have kU : va_up W1 117 (V iu - V ia % V iu) iu = V iu := by rw [va_up_ne _ _ hu.2.2.2]; exact gU
      have key5 := c_Dv_partOf (l := l) (D := D) (ca := ca) (ia := 117) (iu := iu) (pt := pt) S3 V3 (by decide) hiu ⟨by decide, by decide, by decide⟩ hu (by rw [k117]; omega) (by rw [kU]; exact hU) (by rw [kU]; exact hU0) hpt
      rw [k117, kU] at key5
      refine And.intro (od S1) ⟨some (ad 334), rx S1, ?_⟩
      refine And.intro (S1.wh 117 (by decide)).1 (And.intro (Nat.le_of_ble_eq_true rfl) (And.intro (Nat.le_of_ble_eq_true rfl) ⟨0, 0, _, Nat.le_refl _, Nat.le_refl _, key3, fun v m' hq => ?_⟩))
      obtain ⟨rfl, e⟩ := hq
      rw [show whS m1 (ad (100 + 2 * 117)) (ad (101 + 2 * 117)) (V iu) = m2 from hm2] at e
      have e := e.symm
      subst e
      refine And.intro (od S2) ⟨some (ad 334), rx S2, ?_⟩
      refine And.intro (od S2) ⟨some (ad 330), rr S2, ?_⟩
      refine And.intro (S2.wh 117 (by decide)).1 (And.intro (Nat.le_of_ble_eq_true rfl) (And.intro (Nat.le_of_ble_eq_true rfl) ⟨0, 0, _, Nat.le_refl _, Nat.le_refl _, key4, fun v m' hq => ?_⟩))
      obtain ⟨rfl, e⟩ := hq
      rw [show whS m2 (ad (100 + 2 * 117)) (ad (101 + 2 * 117)) (V iu - V ia % V iu) = m3 from hm3] at e
      have e := e.symm
      subst e
      refine And.intro (od S3) ⟨some (ad 334), rx S3, ?_⟩
      refine And.intro (od S3) (And.intro (Nat.le_of_ble_eq_true rfl) (And.intro (Nat.le_of_ble_eq_true rfl) ⟨0, 0, _, Nat.le_refl _, Nat.le_refl _, key5, fun v m4 hq => ?_⟩))
      obtain ⟨rfl, F4, V', WV4, hs4⟩ := hq
      refine ⟨Nat.le_refl _, Nat.le_refl _, trivial, ?_, F3.tr F4, V', WV4, (hs1.tr (fun i hi a b c d => va_up_ne _ _ d)).tr hs4⟩
      unfold npart
      rw [if_neg hr0, if_neg hp0]
end DV4
