section RB30
variable {l : Launch} {D : va_G} {ca : Nat → ClassId}
def swt (R : RD) (j k : Nat) (q : Nat) : Nat := if q / 3 = j ∧ q % 3 < R.K then ds_nS (fun o => rYv R (9 * (3 * o + k) + q)) (R.O j) else 0
theorem swt_le {R : RD} (h : ROK R) {j k : Nat} (hj : j < R.M) (q : Nat) : swt R j k q ≤ 2 ^ 24 := by
  have ho := h.2.2.2.1 j hj
  unfold swt
  split
  · have := ds_nS_bd (f := fun o => rYv R (9 * (3 * o + k) + q)) (c := 500000) (n := R.O j) (fun o _ => rYv_le h)
    have h2 : R.O j * 500000 ≤ 3 * 500000 := Nat.mul_le_mul_right _ ho.2
    omega
  · exact Nat.zero_le _
theorem rRch_lt {R : RD} (h : STD R) (to : Int32) (k p : Nat) : rRch R to k p < 2 ^ 240 := by
  unfold rRch
  split
  · exact h.wlt (fun q _ => wpt_le h.1 _ _ _)
  · split
    · exact h.dlt
    · exact Nat.pow_pos (by decide)
abbrev rslC (R : RD) (x y z p t : Int32) : Prop := isFr R x y z ∧ (0 ≤ p.toInt ∧ p.toInt < (R.P : Int)) ∧ 0 ≤ t.toInt ∧ t.toInt ≤ 6
abbrev rStd (R : RD) : Prop := ∀ j, j < R.M → ¬ rstk R j
def rslV (R : RD) (j k o p pt : Nat) : Int64 := sgd (rRch R (R.J (3 * j + o)) k p) (rRch R (R.J (3 * j + (R.O j - 1))) k p) (rAm R (swt R j k)) (rDT R) pt
theorem c_Mo_slope {m : jm_M} {rd : Nat → Nat} {A : RSt} {n : Nat} (h : MI m rd A n) (hn : n < 2 ^ 31) (x y z p t : Int32) (hS : rslC A.1 x y z p t → rStd A.1 → STD A.1) : jm_C l D ca n_Mo_slope [.ref (rd 0), .int x, .int y, .int z, .int p, .int t] m 0 0 (fun v m' => FMa rd m m' ∧ MI m' rd A n ∧ (((rslC A.1 x y z p t ∧ rStd A.1) ∧ v = some (.long (rslV A.1 x.toInt.toNat y.toInt.toNat z.toInt.toNat p.toInt.toNat t.toInt.toNat))) ∨ (¬ (rslC A.1 x y z p t ∧ rStd A.1) ∧ v = some (.long (-1))))) := by
  refine jm_C_of (cd := cd_Mo_slope) (ini := false) (by decide +kernel) ok_Mo_slope (fun h => by cases h) (Nat.le_of_ble_eq_true rfl) ?_
  intro X hX
  have S := h.1
  have o0 : ∀ {m : jm_M}, MST m rd → jm_ok m (rd 0) 6 := fun S => S.ok (Or.inl (by decide))
  have k0 : mkin 0 := Or.inl (by decide)
  have k2 : mkin 2 := Or.inl (by decide)
  have k3 : mkin 3 := Or.inl (by decide)
  have k19 : mkin 19 := Or.inr (Or.inl (by decide))
  have k25 : mkin 25 := Or.inr (Or.inl (by decide))
  have k30 : mkin 30 := Or.inr (Or.inr (Or.inl rfl))
  have hV : MV m rd 0 A.1 := (h.2.1 0 (by decide)).1
  have hR : ROK A.1 := (h.2.1 0 (by decide)).2
  have hM : A.1.M ≤ 3 := hR.2.1
  have hP : A.1.P ≤ 3 := hR.2.2.1
  have hK : 1 ≤ A.1.K ∧ A.1.K ≤ 3 := hR.1
  have eP : m.2.2.1 (rd 2) 0 = nI A.1.P := hV.2.2.1
  have no : ¬ (rslC A.1 x y z p t ∧ rStd A.1) → X 38 [(0, .ref (rd 0)), (1, .int x), (2, .int y), (3, .int z), (4, .int p), (5, .int t)] [] m 0 0 := fun hn => by
    refine jm_run hX [] 5 ?_
    exact ⟨Nat.le_refl _, Nat.le_refl _, trivial, FM.rf, h, Or.inr ⟨hn, rfl⟩⟩
  have k42 : rslC A.1 x y z p t → X 42 [(0, .ref (rd 0)), (1, .int x), (2, .int y), (3, .int z), (4, .int p), (5, .int t)] [] m 0 0 := fun hc => by
    have hou : 1 ≤ A.1.O x.toInt.toNat ∧ A.1.O x.toInt.toNat ≤ 3 := hR.2.2.2.1 x.toInt.toNat (by omega)
    refine jm_run hX [(59, [0, 1, 2, 3, 4, 5])] 20 ?_
    refine And.intro (o0 S) (And.intro (Nat.le_of_ble_eq_true rfl) (And.intro (Nat.le_of_ble_eq_true rfl) ⟨0, 0, _, Nat.le_refl _, Nat.le_refl _, c_Mo_layOut S hV (by decide) hR, fun v m1 hq => ?_⟩))
    obtain ⟨rfl, hF1, hL1⟩ := hq
    have S1 := hF1.S S
    have hI1 : MI m1 rd A n := by
      obtain ⟨V, hb⟩ := h.2.2.2.1
      exact h.mv hF1 (fun k w => by omega) (fun j _ _ => by rw [(hF1.at S k0 (by decide)).1]) ⟨V, by rw [(hF1.at S k25 (by decide)).2]; exact hb⟩
    refine And.intro (o0 S1) (And.intro (Nat.le_of_ble_eq_true rfl) (And.intro (Nat.le_of_ble_eq_true rfl) ⟨0, 0, _, Nat.le_refl _, Nat.le_refl _, c_Mo_stuck S1 (hI1.2.1 0 (by decide)).1 hL1 (by decide) hR, fun v m2 hq => ?_⟩))
    obtain ⟨ee, w, rfl, hx⟩ := hq
    have ee := ee.symm
    subst ee
    rcases hx with ⟨j, hj, hs, hns, rfl⟩ | ⟨hns, rfl⟩
    · have hj3 : j < A.1.M := hj
      refine And.intro (fun g => absurd g (nI_pos (by omega))) (fun _ => ?_)
      exact ⟨Nat.le_refl _, Nat.le_refl _, trivial, hF1.a, hI1, Or.inr ⟨fun q => q.2 j hj hs, rfl⟩⟩
    · have hns : rStd A.1 := hns
      have hSt := hS hc hns
      refine And.intro (fun _ => ?_) (fun g => absurd (by decide) g)
      have ex : x = nI x.toInt.toNat := i_of hc.1.1.1.1
      have ey : y = nI y.toInt.toNat := i_of hc.1.2.1.1
      have ez : z = nI z.toInt.toNat := i_of hc.1.1.2.1
      have ep : p = nI p.toInt.toNat := i_of hc.2.1.1
      have hj : x.toInt.toNat < A.1.M := by omega
      have hk : y.toInt.toNat < A.1.K := by omega
      have ho : z.toInt.toNat + 1 < A.1.O x.toInt.toNat := by omega
      have hp3 : p.toInt.toNat < 3 := by omega
      have ht6 : 0 ≤ t.toInt ∧ t.toInt ≤ 6 := hc.2.2
      generalize hxn : x.toInt.toNat = j at *
      generalize hyn : y.toInt.toNat = k at *
      generalize hzn : z.toInt.toNat = o at *
      generalize hpn : p.toInt.toNat = pn at *
      have hj3 : j < 3 := by omega
      have eq3 : ∀ i, (3 : Int32) * nI j + nI i = nI (3 * j + i) := fun i => by
        have : (3 : Int32) * nI j = nI (3 * j) := pk_mul 3 j
        rw [this, nI_add]
      have hwb : ∀ q, q < 9 → swt A.1 j k q ≤ 2 ^ 24 := fun q _ => swt_le hR hj q
      have hwb2 : ∀ q, q < 9 → wpt A.1 pn (-1) q ≤ 2 ^ 24 := fun q _ => wpt_le hR _ _ _
      have hlo := rRch_lt hSt (A.1.J (3 * j + o)) k pn
      have hla := rRch_lt hSt (A.1.J (3 * j + (A.1.O j - 1))) k pn
      have hps := hSt.alt hwb
      have hdl := hSt.dlt
      have hdp := (hSt.d (rfd A.1)).2
      generalize hval : rslV A.1 j k o pn t.toInt.toNat = val at *
      unfold rslV at hval
      generalize hfi : rRch A.1 (A.1.J (3 * j + o)) k pn = fi at *
      generalize hse : rRch A.1 (A.1.J (3 * j + (A.1.O j - 1))) k pn = se at *
      have big : ∀ a b : Nat, a < 2 ^ 240 → b < 2 ^ 240 → a * b < bB ^ 22 := fun a b ha hb => Nat.lt_trans (Nat.mul_lt_mul'' ha hb) num_b.2.2.2
      have b2224 : bB ^ 22 ≤ bB ^ 24 := Nat.pow_le_pow_right (by decide) (by decide)
      have lt24 : ∀ a : Nat, a < 2 ^ 240 → a < bB ^ 24 := fun a ha => Nat.lt_of_lt_of_le (sp22 ha) b2224
      generalize hpsv : rAm A.1 (swt A.1 j k) = ps at *
      generalize hddv : rDT A.1 = dd at *
      -- the end: top and bottom stand
      have k236 : ∀ m4 V (bl : Bool), FMa rd m m4 → MI m4 rd A n → bgv (m4.2.2.2.1 (rd 25)) V → V 0 = ps * (if fi < se then se - fi else fi - se) → V 1 = dd * dd → bl = decide (fi < se) → X 236 [(0, .ref (rd 0)), (5, .int t), (6, .int (bI bl))] [] m4 0 0 := fun m4 V bl hFa hI hb v0 v1 hbl => by
        have S4 := hI.1
        have kp := c_Mo_partOf (l := l) (D := D) (ca := ca) (bl := bl) S4 hb (by rw [v1]; exact Nat.mul_pos hdp hdp) (by rw [v1]; exact big _ _ hdl hdl) t ht6
        refine jm_run hX [] 10 ?_
        refine And.intro (o0 S4) (And.intro (Nat.le_of_ble_eq_true rfl) (And.intro (Nat.le_of_ble_eq_true rfl) ⟨0, 0, _, Nat.le_refl _, Nat.le_refl _, kp, fun v m5 hq => ?_⟩))
        obtain ⟨rfl, hF5, hIO, hb5⟩ := hq
        have hI5 : MI m5 rd A n := hI.mv hF5 (fun k w => by omega) (fun j q1 q2 => hIO j q1 q2) hb5
        refine ⟨Nat.le_refl _, Nat.le_refl _, trivial, hFa.tr hF5.a, hI5, Or.inl ⟨⟨hc, hns⟩, ?_⟩⟩
        rw [v0, v1, hbl, ← hval]
        unfold pRes sgd
        by_cases w : fi < se
        · rw [if_pos w, decide_eq_true w, if_pos rfl, if_pos w, Nat.mul_comm]
        · rw [if_neg w, decide_eq_false w, if_neg (by decide), if_neg w, Nat.mul_comm]
      have k216 : ∀ m4 V (bl : Bool), FMa rd m m4 → MI m4 rd A n → bgv (m4.2.2.2.1 (rd 25)) V → V 3 = (if fi < se then se - fi else fi - se) → V 5 = ps → V 1 = dd → bl = decide (fi < se) → X 216 [(0, .ref (rd 0)), (5, .int t), (6, .int (bI bl))] [] m4 0 0 := fun m4 V bl hFa hI hb v3 v5 v1 hbl => by
        have S4 := hI.1
        have hdf : (if fi < se then se - fi else fi - se) < 2 ^ 240 := by split <;> omega
        have km := c_Mo_multiply_2 (l := l) (D := D) (ca := ca) (a := 5) (b := 3) (c := 0) S4 hb (by decide) (by decide) (by decide) (by decide) (by decide) (by rw [v5, v3]; exact Nat.lt_of_lt_of_le (big _ _ hps hdf) b2224)
        refine jm_run hX [(236, [0, 5, 6])] 30 ?_
        refine And.intro (o0 S4) (And.intro (Nat.le_of_ble_eq_true rfl) (And.intro (Nat.le_of_ble_eq_true rfl) ⟨0, 0, _, Nat.le_refl _, Nat.le_refl _, km, fun v m5 hq => ?_⟩))
        obtain ⟨rfl, em5⟩ := hq
        have hF5 : FM rd dP m4 m5 := by rw [em5]; exact FM25
        have hb5 : bgv (m5.2.2.2.1 (rd 25)) (va_up V 0 (V 5 * V 3)) := by rw [em5]; exact hb.up (by rw [v5, v3]; exact Nat.lt_of_lt_of_le (big _ _ hps hdf) b2224)
        have S5 := hF5.S S4
        have kc := c_Mo_copy (l := l) (D := D) (ca := ca) (a := 1) (b := 4) S5 hb5 (by decide) (by decide)
        refine And.intro (o0 S5) (And.intro (Nat.le_of_ble_eq_true rfl) (And.intro (Nat.le_of_ble_eq_true rfl) ⟨0, 0, _, Nat.le_refl _, Nat.le_refl _, kc, fun v m6 hq => ?_⟩))
        obtain ⟨rfl, em6⟩ := hq
        have w1 : va_up V 0 (V 5 * V 3) 1 = dd := by rw [va_up_ne _ _ (by decide)]; exact v1
        rw [w1] at em6
        have hF6 : FM rd dP m5 m6 := by rw [em6]; exact FM25
        have hb6 : bgv (m6.2.2.2.1 (rd 25)) (va_up (va_up V 0 (V 5 * V 3)) 4 dd) := by rw [em6]; exact hb5.up (lt24 _ hdl)
        have S6 := hF6.S S5
        have w4 : va_up (va_up V 0 (V 5 * V 3)) 4 dd 4 = dd := va_up_self _ _ _
        have km2 := c_Mo_multiply_2 (l := l) (D := D) (ca := ca) (a := 4) (b := 4) (c := 1) S6 hb6 (by decide) (by decide) (by decide) (by decide) (by decide) (by rw [w4]; exact Nat.lt_of_lt_of_le (big _ _ hdl hdl) b2224)
        refine And.intro (o0 S6) (And.intro (Nat.le_of_ble_eq_true rfl) (And.intro (Nat.le_of_ble_eq_true rfl) ⟨0, 0, _, Nat.le_refl _, Nat.le_refl _, km2, fun v m7 hq => ?_⟩))
        obtain ⟨rfl, em7⟩ := hq
        rw [w4] at em7
        have hF7 : FM rd dP m6 m7 := by rw [em7]; exact FM25
        have hb7 : bgv (m7.2.2.2.1 (rd 25)) (va_up (va_up (va_up V 0 (V 5 * V 3)) 4 dd) 1 (dd * dd)) := by rw [em7]; exact hb6.up (Nat.lt_of_lt_of_le (big _ _ hdl hdl) b2224)
        have hF47 := (hF5.tr hF6).tr hF7
        have e0 : ∀ j, m7.2.2.1 (rd 0) j = m4.2.2.1 (rd 0) j := fun j => by rw [em7, em6, em5]; rfl
        have hI7 : MI m7 rd A n := hI.mv hF47 (fun k w => by omega) (fun j _ _ => e0 j) ⟨_, hb7⟩
        refine k236 m7 _ bl (hFa.tr hF47.a) hI7 hb7 ?_ (va_up_self _ _ _) hbl
        rw [va_up_ne _ _ (by decide), va_up_ne _ _ (by decide), va_up_self, v5, v3]
      have k182 : ∀ m4 V, FMa rd m m4 → MI m4 rd A n → bgv (m4.2.2.2.1 (rd 25)) V → V 3 = fi → V 4 = se → V 5 = ps → V 1 = dd → X 182 [(0, .ref (rd 0)), (5, .int t)] [] m4 0 0 := fun m4 V hFa hI hb v3 v4 v5 v1 => by
        have S4 := hI.1
        have kl := c_Mo_isLess (l := l) (D := D) (ca := ca) (a := 3) (b := 4) S4 hb (by decide) (by decide)
        refine jm_run hX [(216, [0, 5, 6])] 40 ?_
        refine And.intro (o0 S4) (And.intro (Nat.le_of_ble_eq_true rfl) (And.intro (Nat.le_of_ble_eq_true rfl) ⟨0, 0, _, Nat.le_refl _, Nat.le_refl _, kl, fun v m5 hq => ?_⟩))
        obtain ⟨ee, rfl⟩ := hq
        have ee := ee.symm
        subst ee
        rw [v3, v4]
        by_cases w : fi < se
        · rw [if_pos w]
          refine And.intro (fun g => absurd g (by decide)) (fun _ => ?_)
          have ks := c_Mo_lessen (l := l) (D := D) (ca := ca) (a := 4) (b := 3) S4 hb (by decide) (by decide) (by decide) (by rw [v3, v4]; omega)
          refine And.intro (o0 S4) (And.intro (Nat.le_of_ble_eq_true rfl) (And.intro (Nat.le_of_ble_eq_true rfl) ⟨0, 0, _, Nat.le_refl _, Nat.le_refl _, ks, fun v m5 hq => ?_⟩))
          obtain ⟨rfl, em5⟩ := hq
          rw [v3, v4] at em5
          have hF5 : FM rd dP m4 m5 := by rw [em5]; exact FM25
          have hb5 : bgv (m5.2.2.2.1 (rd 25)) (va_up V 4 (se - fi)) := by rw [em5]; exact hb.up (lt24 _ (by omega))
          have S5 := hF5.S S4
          have kc := c_Mo_copy (l := l) (D := D) (ca := ca) (a := 4) (b := 3) S5 hb5 (by decide) (by decide)
          refine And.intro (o0 S5) (And.intro (Nat.le_of_ble_eq_true rfl) (And.intro (Nat.le_of_ble_eq_true rfl) ⟨0, 0, _, Nat.le_refl _, Nat.le_refl _, kc, fun v m6 hq => ?_⟩))
          obtain ⟨rfl, em6⟩ := hq
          rw [va_up_self] at em6
          have hF6 : FM rd dP m5 m6 := by rw [em6]; exact FM25
          have hb6 : bgv (m6.2.2.2.1 (rd 25)) (va_up (va_up V 4 (se - fi)) 3 (se - fi)) := by rw [em6]; exact hb5.up (lt24 _ (by omega))
          have hF46 := hF5.tr hF6
          have e0 : ∀ j, m6.2.2.1 (rd 0) j = m4.2.2.1 (rd 0) j := fun j => by rw [em6, em5]; rfl
          have hI6 : MI m6 rd A n := hI.mv hF46 (fun k w => by omega) (fun j _ _ => e0 j) ⟨_, hb6⟩
          refine k216 m6 _ true (hFa.tr hF46.a) hI6 hb6 ?_ ?_ ?_ (decide_eq_true w).symm
          · rw [va_up_self, if_pos w]
          · rw [va_up_ne _ _ (by decide), va_up_ne _ _ (by decide)]; exact v5
          · rw [va_up_ne _ _ (by decide), va_up_ne _ _ (by decide)]; exact v1
        · rw [if_neg w]
          refine And.intro (fun _ => ?_) (fun g => absurd rfl g)
          have ks := c_Mo_lessen (l := l) (D := D) (ca := ca) (a := 3) (b := 4) S4 hb (by decide) (by decide) (by decide) (by rw [v3, v4]; omega)
          refine And.intro (o0 S4) (And.intro (Nat.le_of_ble_eq_true rfl) (And.intro (Nat.le_of_ble_eq_true rfl) ⟨0, 0, _, Nat.le_refl _, Nat.le_refl _, ks, fun v m5 hq => ?_⟩))
          obtain ⟨rfl, em5⟩ := hq
          rw [v3, v4] at em5
          have hF5 : FM rd dP m4 m5 := by rw [em5]; exact FM25
          have hb5 : bgv (m5.2.2.2.1 (rd 25)) (va_up V 3 (fi - se)) := by rw [em5]; exact hb.up (lt24 _ (by omega))
          have e0 : ∀ j, m5.2.2.1 (rd 0) j = m4.2.2.1 (rd 0) j := fun j => by rw [em5]; rfl
          have hI5 : MI m5 rd A n := hI.mv hF5 (fun k w => by omega) (fun j _ _ => e0 j) ⟨_, hb5⟩
          refine k216 m5 _ false (hFa.tr hF5.a) hI5 hb5 ?_ ?_ ?_ (decide_eq_false w).symm
          · rw [va_up_self, if_neg w]
          · rw [va_up_ne _ _ (by decide)]; exact v5
          · rw [va_up_ne _ _ (by decide)]; exact v1
      have k143 : ∀ m4 V, FMa rd m m4 → MI m4 rd A n → LAY m4 rd A.1 → CCR m4 rd A.1 → bgv (m4.2.2.2.1 (rd 25)) V → V 5 = ps → V 1 = dd → X 143 [(0, .ref (rd 0)), (1, .int x), (2, .int y), (3, .int z), (4, .int p), (5, .int t)] [] m4 0 0 := fun m4 V hFa hI hL hC hb v5 v1 => by
        have S4 := hI.1
        have kc := c_Mo_clearWeights (l := l) (D := D) (ca := ca) S4
        refine jm_run hX [(182, [0, 5])] 60 ?_
        refine And.intro (o0 S4) (And.intro (Nat.le_of_ble_eq_true rfl) (And.intro (Nat.le_of_ble_eq_true rfl) ⟨0, 0, _, Nat.le_refl _, Nat.le_refl _, kc, fun v m5 hq => ?_⟩))
        obtain ⟨rfl, em5⟩ := hq
        have hF5 : FM rd p30 m4 m5 := by rw [em5]; exact FM.uJA k30 rfl
        have S5 := hF5.S S4
        have g255 : m5.2.2.2.1 (rd 25) = m4.2.2.2.1 (rd 25) := (hF5.at S4 k25 (by decide)).2
        have hI5 : MI m5 rd A n := hI.mv hF5 (fun k w => by have : k = 30 := w; omega) (fun j _ _ => by rw [(hF5.at S4 k0 (by decide)).1]) ⟨_, by rw [g255]; exact hb⟩
        have hw5 : lrow (m5.2.2.2.1 (rd 30)) (fun _ => 0) 9 := by
          rw [em5]
          show lrow (va_up m4.2.2.2.1 (rd 30) _ (rd 30)) _ 9
          rw [va_up_self]; exact lfil_row
        have hL5 := hL.fm S4 hF5 (fun k w w2 => by show ¬ k = 30; omega)
        have kw := c_Mo_weighPort (l := l) (D := D) (ca := ca) (p := pn) (kd := -1) S5 (hI5.2.1 0 (by decide)).1 hL5 hw5 (by decide) hR
        rw [← ep] at kw
        refine And.intro (o0 S5) (And.intro (Nat.le_of_ble_eq_true rfl) (And.intro (Nat.le_of_ble_eq_true rfl) ⟨0, 0, _, Nat.le_refl _, Nat.le_refl _, kw, fun v m6 hq => ?_⟩))
        obtain ⟨rfl, hF6, hw6⟩ := hq
        have S6 := hF6.S S5
        have g256 : m6.2.2.2.1 (rd 25) = m5.2.2.2.1 (rd 25) := (hF6.at S5 k25 (by decide)).2
        have hI6 : MI m6 rd A n := hI5.mv hF6 (fun k w => by have : k = 30 := w; omega) (fun j _ _ => by rw [(hF6.at S5 k0 (by decide)).1]) ⟨_, by rw [g256, g255]; exact hb⟩
        have hw6 : lrow (m6.2.2.2.1 (rd 30)) (wpt A.1 pn (-1)) 9 := fun i hi => by rw [hw6 i hi]; dsimp only; rw [Nat.zero_add]; rfl
        have hC6 : CCR m6 rd A.1 := (hC.mv (hF5.at S4 (Or.inr (Or.inl (by decide))) (by decide)).2 (hF5.at S4 (Or.inr (Or.inl (by decide))) (by decide)).2).mv (hF6.at S5 (Or.inr (Or.inl (by decide))) (by decide)).2 (hF6.at S5 (Or.inr (Or.inl (by decide))) (by decide)).2
        have hb6 : bgv (m6.2.2.2.1 (rd 25)) V := by rw [g256, g255]; exact hb
        have kg1 := c_Mo_gatherOut (l := l) (D := D) (ca := ca) (j := j) (k := k) (o := o) (p := pn) (q := 3) hI6 hSt hC6 hb6 hw6 hj3 (by omega) (by omega) hp3 (by decide)
        rw [hfi, ← ex, ← ey, ← ez, ← ep] at kg1
        refine And.intro (o0 S6) (And.intro (Nat.le_of_ble_eq_true rfl) (And.intro (Nat.le_of_ble_eq_true rfl) ⟨0, 0, _, Nat.le_refl _, Nat.le_refl _, kg1, fun v m7 hq => ?_⟩))
        obtain ⟨rfl, hF7, hb7⟩ := hq
        have S7 := hF7.S S6
        have hI7 : MI m7 rd A n := hI6.mv hF7 (fun k w => by omega) (fun j _ _ => by rw [(hF7.at S6 k0 (by decide)).1]) ⟨_, hb7⟩
        have hC7 : CCR m7 rd A.1 := hC6.mv (hF7.at S6 (Or.inr (Or.inl (by decide))) (by decide)).2 (hF7.at S6 (Or.inr (Or.inl (by decide))) (by decide)).2
        have hw7 : lrow (m7.2.2.2.1 (rd 30)) (wpt A.1 pn (-1)) 9 := by rw [(hF7.at S6 k30 (by decide)).2]; exact hw6
        have eo : m7.2.2.1 (rd 3) x.toNatClampNeg - 1 = nI (A.1.O j - 1) := by
          have e2 : x.toNatClampNeg = j := by rw [ex]; exact nI_c (by omega)
          rw [e2]
          have := (hI7.2.1 0 (by decide)).1.2.2.2.1 j hj3
          rw [Nat.mul_zero, Nat.zero_add] at this
          rw [this]
          exact pk_sub (b := 1) hou.1
        have hin : vp_in x (m7.2.1 (rd 3)).2 := by rw [ex]; exact vin_of (S7.len k3) (show j < 6 by omega) (by decide)
        have kg2 := c_Mo_gatherOut (l := l) (D := D) (ca := ca) (j := j) (k := k) (o := A.1.O j - 1) (p := pn) (q := 4) hI7 hSt hC7 hb7 hw7 hj3 (by omega) (by omega) hp3 (by decide)
        rw [hse, ← eo, ← ex, ← ey, ← ep] at kg2
        refine And.intro (o0 S7) ⟨some (rd 3), S7.2.2 3 k3 (by decide), And.intro (S7.ok k3) (And.intro hin ?_)⟩
        refine And.intro (o0 S7) (And.intro (Nat.le_of_ble_eq_true rfl) (And.intro (Nat.le_of_ble_eq_true rfl) ⟨0, 0, _, Nat.le_refl _, Nat.le_refl _, kg2, fun v m8 hq => ?_⟩))
        obtain ⟨rfl, hF8, hb8⟩ := hq
        have hI8 : MI m8 rd A n := hI7.mv hF8 (fun k w => by omega) (fun j _ _ => by rw [(hF8.at S7 k0 (by decide)).1]) ⟨_, hb8⟩
        refine k182 m8 _ ((((hFa.tr hF5.a).tr hF6.a).tr hF7.a).tr hF8.a) hI8 hb8 ?_ ?_ ?_ ?_
        · rw [va_up_ne _ _ (by decide), va_up_self]
        · rw [va_up_self]
        · rw [va_up_ne _ _ (by decide), va_up_ne _ _ (by decide)]; exact v5
        · rw [va_up_ne _ _ (by decide), va_up_ne _ _ (by decide)]; exact v1
      -- prepare and the weights
      have k59 : X 59 [(0, .ref (rd 0)), (1, .int x), (2, .int y), (3, .int z), (4, .int p), (5, .int t)] [] m1 0 0 := by
        refine jm_run hX [(67, [0, 1, 2, 3, 4, 5, 6])] 20 ?_
        refine And.intro (o0 S1) (And.intro (Nat.le_of_ble_eq_true rfl) (And.intro (Nat.le_of_ble_eq_true rfl) ⟨0, 0, _, Nat.le_refl _, Nat.le_refl _, c_Mo_prepare hI1 hn (f := 0) (by decide) hSt, fun v m2 hq => ?_⟩))
        obtain ⟨rfl, hFa2, hI2, hL2, hC2, ⟨V2, hb2, hv2⟩, hw2⟩ := hq
        have hL2 : LAY m2 rd A.1 := hL2
        have hC2 : CCR m2 rd A.1 := hC2
        have hv2 : V2 1 = rDT A.1 := hv2
        rw [hddv] at hv2
        have S2 := hI2.1
        have hV2 : MV m2 rd 0 A.1 := (hI2.2.1 0 (by decide)).1
        have exc : x.toNatClampNeg = j := by rw [ex]; exact nI_c (by omega)
        have outer : ∀ (e k0 : Nat), k0 + e = A.1.K → ∀ m3, FM rd p30 m2 m3 → lrow (m3.2.2.2.1 (rd 30)) (fun q => if q / 3 = j ∧ q % 3 < k0 then ds_nS (fun o => rYv A.1 (9 * (3 * o + k) + q)) (A.1.O j) else 0) 9 → X 67 [(0, .ref (rd 0)), (1, .int x), (2, .int y), (3, .int z), (4, .int p), (5, .int t), (6, .int (nI k0))] [] m3 0 0 := by
          intro e
          induction e with
          | zero =>
            intro k0 hk0 m3 hF3 hw3
            have hkk : k0 = A.1.K := by omega
            subst hkk
            have S3 := hF3.S S2
            have g25 : m3.2.2.2.1 (rd 25) = m2.2.2.2.1 (rd 25) := (hF3.at S2 k25 (by decide)).2
            have hI3 : MI m3 rd A n := hI2.mv hF3 (fun k w => by have : k = 30 := w; omega) (fun j _ _ => by rw [(hF3.at S2 k0 (by decide)).1]) ⟨_, by rw [g25]; exact hb2⟩
            have hV3 : MV m3 rd 0 A.1 := (hI3.2.1 0 (by decide)).1
            have hC3 : CCR m3 rd A.1 := hC2.mv (hF3.at S2 (Or.inr (Or.inl (by decide))) (by decide)).2 (hF3.at S2 (Or.inr (Or.inl (by decide))) (by decide)).2
            have hL3 := hL2.fm S2 hF3 (fun k w w2 => by show ¬ k = 30; omega)
            have hfd : ∀ i, i < 9 → m3.2.2.1 (rd 10) (9 * 0 + i) = nI (A.1.F i) ∧ A.1.F i ≤ 1000000 := fun i hi => ⟨(hV3.2.2.2.2.2.2 i hi).2.2.2, hR.2.2.2.2.2.2.2.2.2 i hi⟩
            have kg := c_Mo_gatherAmount (l := l) (D := D) (ca := ca) (f := 0) (n := 5) (wt := swt A.1 j k) (Xv := ps) S3 hI3.2.2.1 hC3 (by rw [g25]; exact hb2) hw3 (fun q hq => Nat.lt_of_le_of_lt (hwb q hq) (by decide)) (by decide) hfd (by decide) (by rw [← hpsv]; exact hSt.am _) (sp24 hps)
            refine jm_run hX [(143, [0, 1, 2, 3, 4, 5])] 20 ?_
            refine And.intro (o0 S3) ?_
            refine And.intro (fun _ => ?_) (fun g => absurd (show m3.2.2.1 (rd 0) 0 ≤ nI A.1.K from by rw [hV3.1]; exact nI_le (Nat.le_refl _) (by omega)) g)
            refine And.intro (o0 S3) (And.intro (Nat.le_of_ble_eq_true rfl) (And.intro (Nat.le_of_ble_eq_true rfl) ⟨0, 0, _, Nat.le_refl _, Nat.le_refl _, kg, fun v m4 hq => ?_⟩))
            obtain ⟨rfl, hF4, hb4⟩ := hq
            have hI4 : MI m4 rd A n := hI3.mv hF4 (fun k w => by omega) (fun j _ _ => by rw [(hF4.at S3 k0 (by decide)).1]) ⟨_, hb4⟩
            refine k143 m4 _ (((hF1.a.tr hFa2).tr hF3.a).tr hF4.a) hI4 (hL3.fm S3 hF4 (fun k w w2 => by show ¬ (k = 25 ∨ k = 26 ∨ k = 27); omega)) (hC3.mv (hF4.at S3 (Or.inr (Or.inl (by decide))) (by decide)).2 (hF4.at S3 (Or.inr (Or.inl (by decide))) (by decide)).2) hb4 (va_up_self _ _ _) ?_
            rw [va_up_ne _ _ (by decide)]; exact hv2
          | succ e ih =>
            intro k0 hk0 m3 hF3 hw3
            have hq9 : 3 * j + k0 < 9 := by omega
            have inner : ∀ (e o1 : Nat), o1 + e = A.1.O j → ∀ m4, FM rd p30 m2 m4 → lrow (m4.2.2.2.1 (rd 30)) (fun q => if q / 3 = j ∧ q % 3 < k0 then ds_nS (fun o => rYv A.1 (9 * (3 * o + k) + q)) (A.1.O j) else if q = 3 * j + k0 then ds_nS (fun o => rYv A.1 (9 * (3 * o + k) + q)) o1 else 0) 9 → X 87 [(0, .ref (rd 0)), (1, .int x), (2, .int y), (3, .int z), (4, .int p), (5, .int t), (6, .int (nI k0)), (7, .int (nI (3 * j + k0))), (8, .int (nI o1))] [] m4 0 0 := by
              intro e
              induction e with
              | zero =>
                intro o1 ho1 m4 hF4 hw4
                have : o1 = A.1.O j := by omega
                subst this
                have S4 := hF4.S S2
                have eo : m4.2.2.1 (rd 3) x.toNatClampNeg = nI (A.1.O j) := by
                  rw [exc, (hF4.at S2 k3 (by decide)).1]
                  have := hV2.2.2.2.1 j hj3
                  rw [Nat.mul_zero, Nat.zero_add] at this
                  exact this
                have hin : vp_in x (m4.2.1 (rd 3)).2 := by rw [ex]; exact vin_of (S4.len k3) (show j < 6 by omega) (by decide)
                have kk := ih (k0 + 1) (by omega) m4 hF4 (fun i hi => by
                  rw [hw4 i hi]
                  dsimp only
                  by_cases w : i / 3 = j ∧ i % 3 < k0
                  · rw [if_pos w, if_pos (by omega)]
                  · rw [if_neg w]
                    by_cases w2 : i = 3 * j + k0
                    · rw [if_pos w2, if_pos (by omega)]
                    · rw [if_neg w2, if_neg (by omega)])
                rw [← nI_1] at kk
                refine jm_run hX [(67, [0, 1, 2, 3, 4, 5, 6])] 20 ?_
                refine And.intro (o0 S4) ⟨some (rd 3), S4.2.2 3 k3 (by decide), And.intro (S4.ok k3) (And.intro hin ?_)⟩
                exact And.intro (fun _ => kk) (fun g => absurd (show m4.2.2.1 (rd 3) x.toNatClampNeg ≤ nI (A.1.O j) from by rw [eo]; exact nI_le (Nat.le_refl _) (by omega)) g)
              | succ e ih2 =>
                intro o1 ho1 m4 hF4 hw4
                have S4 := hF4.S S2
                have hL4 := hL2.fm S2 hF4 (fun k w w2 => by show ¬ k = 30; omega)
                have eo : m4.2.2.1 (rd 3) x.toNatClampNeg = nI (A.1.O j) := by
                  rw [exc, (hF4.at S2 k3 (by decide)).1]
                  have := hV2.2.2.2.1 j hj3
                  rw [Nat.mul_zero, Nat.zero_add] at this
                  exact this
                have hin : vp_in x (m4.2.1 (rd 3)).2 := by rw [ex]; exact vin_of (S4.len k3) (show j < 6 by omega) (by decide)
                have i1 : 9 * (3 * o1 + k) + (3 * j + k0) < 81 := by omega
                have eix : (9 : Int32) * ((3 : Int32) * nI o1 + y) + nI (3 * j + k0) = nI (9 * (3 * o1 + k) + (3 * j + k0)) := by rw [ey, ix93]
                have hin19 : vp_in ((9 : Int32) * ((3 : Int32) * nI o1 + y) + nI (3 * j + k0)) (m4.2.1 (rd 19)).2 := by rw [eix]; exact vin_of (S4.len k19) i1 (by decide)
                have ew : m4.2.2.2.1 (rd 19) ((9 : Int32) * ((3 : Int32) * nI o1 + y) + nI (3 * j + k0)).toNatClampNeg = lN (rYv A.1 (9 * (3 * o1 + k) + (3 * j + k0))) := by
                  rw [eix, nI_c (by omega), hL4.2.2 _ i1]
                have hin30 : vp_in (nI (3 * j + k0)) (m4.2.1 (rd 30)).2 := vin_of (S4.len k30) hq9 (by decide)
                refine jm_run hX [(87, [0, 1, 2, 3, 4, 5, 6, 7, 8])] 40 ?_
                refine And.intro (o0 S4) ⟨some (rd 3), S4.2.2 3 k3 (by decide), And.intro (S4.ok k3) (And.intro hin ?_)⟩
                refine And.intro (fun g => absurd (show m4.2.2.1 (rd 3) x.toNatClampNeg ≤ nI o1 from g) (by rw [eo]; exact nI_ge (by omega) (by omega))) (fun _ => ?_)
                refine And.intro (o0 S4) ⟨some (rd 30), S4.2.2 30 k30 (by decide), And.intro rfl (And.intro rfl (And.intro (S4.ok k30) (And.intro hin30 (And.intro (o0 S4) ⟨some (rd 19), S4.2.2 19 k19 (by decide), And.intro (S4.ok k19) (And.intro hin19 (And.intro (S4.ok k30) (And.intro hin30 ?_)))⟩))))⟩
                have kk := ih2 (o1 + 1) (by omega) (uJ m4 (rd 30) (nI (3 * j + k0)).toNatClampNeg (m4.2.2.2.1 (rd 30) (nI (3 * j + k0)).toNatClampNeg + m4.2.2.2.1 (rd 19) ((9 : Int32) * ((3 : Int32) * nI o1 + y) + nI (3 * j + k0)).toNatClampNeg)) (hF4.tr (FM.uJ k30 rfl)) (fun i hi => by
                  show va_up m4.2.2.2.1 (rd 30) (va_up (m4.2.2.2.1 (rd 30)) _ _) (rd 30) i = _
                  rw [va_up_self, ew, nI_c (by omega), hw4 _ hq9]
                  dsimp only
                  by_cases w : i = 3 * j + k0
                  · subst w
                    rw [va_up_self, if_neg (by omega), if_pos rfl, if_neg (by omega), if_pos rfl, lN_add]
                    rfl
                  · rw [va_up_ne _ _ w, hw4 i hi]
                    dsimp only
                    rw [if_neg w, if_neg w])
                rw [← nI_1] at kk
                exact kk
            have S3 := hF3.S S2
            have hV3 : m3.2.2.1 (rd 0) 0 = nI A.1.K := by rw [(hF3.at S2 (k := 0) (Or.inl (by decide)) (by decide)).1]; exact hV2.1
            have e3 : (3 : Int32) * x + nI k0 = nI (3 * j + k0) := by rw [ex]; exact eq3 k0
            have kk := inner (A.1.O j) 0 (by omega) m3 hF3 (fun i hi => by
              rw [hw3 i hi]
              dsimp only
              by_cases w : i / 3 = j ∧ i % 3 < k0
              · rw [if_pos w, if_pos w]
              · rw [if_neg w, if_neg w]
                split <;> rfl)
            rw [← e3] at kk
            refine jm_run hX [(87, [0, 1, 2, 3, 4, 5, 6, 7, 8])] 20 ?_
            refine And.intro (o0 S3) ?_
            exact And.intro (fun g => absurd (show m3.2.2.1 (rd 0) 0 ≤ nI k0 from g) (by rw [hV3]; exact nI_ge (by omega) (by omega))) (fun _ => kk)
        exact outer A.1.K 0 (by omega) m2 FM.rf (fun i hi => by rw [hw2 i hi]; dsimp only; rw [if_neg (by omega)])
      exact k59
  refine jm_run hX [(38, [0, 1, 2, 3, 4, 5]), (42, [0, 1, 2, 3, 4, 5])] 40 ?_
  refine And.intro (o0 S) (And.intro (Nat.le_of_ble_eq_true rfl) (And.intro (Nat.le_of_ble_eq_true rfl) ⟨0, 0, _, Nat.le_refl _, Nat.le_refl _, c_Mo_isFree h x y z, fun v m' hq => ?_⟩))
  obtain ⟨ee, rfl⟩ := hq
  have ee := ee.symm
  subst ee
  by_cases h1 : isFr A.1 x y z
  · rw [if_pos h1]
    refine And.intro (fun g => absurd g (by decide)) (fun _ => ?_)
    refine And.intro (fun g2 => ?_) (fun g2 => ?_)
    · rw [ilt0] at g2
      exact no (fun q => absurd q.1.2.1.1 (by omega))
    rw [ilt0] at g2
    refine And.intro (o0 S) ⟨some (rd 2), S.2.2 2 k2 (by decide), And.intro (S.ok k2) (And.intro (show vp_in (nI 0) (m.2.1 (rd 2)).2 from vin_of (S.len k2) (by decide) (by decide)) ?_)⟩
    refine And.intro (fun g3 => ?_) (fun g3 => ?_)
    · have g3 : m.2.2.1 (rd 2) 0 ≤ p := g3
      rw [eP, ileN (by omega)] at g3
      exact no (fun q => absurd q.1.2.1.2 (by omega))
    have g3 : ¬ m.2.2.1 (rd 2) 0 ≤ p := g3
    rw [eP, ileN (by omega)] at g3
    refine And.intro (fun g4 => ?_) (fun g4 => ?_)
    · rw [ilt0] at g4
      exact no (fun q => absurd q.1.2.2.1 (by omega))
    rw [ilt0] at g4
    refine And.intro (fun g5 => ?_) (fun g5 => ?_)
    · have g5 : t ≤ nI 6 := g5
      rw [iNle (by decide)] at g5
      exact k42 ⟨h1, ⟨by omega, by omega⟩, by omega, by omega⟩
    · have g5 : ¬ t ≤ nI 6 := g5
      rw [iNle (by decide)] at g5
      exact no (fun q => absurd q.1.2.2.2 (by omega))
  · rw [if_neg h1]
    refine And.intro (fun _ => ?_) (fun g => absurd rfl g)
    exact no (fun q => h1 q.1.1)
end RB30
