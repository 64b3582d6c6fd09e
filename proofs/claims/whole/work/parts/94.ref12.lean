section RB11
variable {l : Launch} {D : va_G} {ca : Nat → ClassId}
theorem c_Mo_gatherWorth {m0 : jm_M} {rd V Wv Tb wt : Nat → Nat} {nd n Xv : Nat} (S0 : MST m0 rd) (hP : lrow (m0.2.2.2.1 (rd 16)) prm 8) (hC : CCH m0 rd Wv Tb) (hg : bgv (m0.2.2.2.1 (rd 25)) V) (hw : lrow (m0.2.2.2.1 (rd 30)) wt 9) (hwb : ∀ j, j < 9 → wt j < 2 ^ 62) (hnd : nd < 9) (hn : n < 6) (hX : (Xv : Int) = wthB (btz Wv Tb) wt nd) (hX9 : Xv < ga_P prm 8) : jm_C l D ca n_Mo_gatherWorth [.ref (rd 0), .int (nI nd), .int (nI n)] m0 0 0 (fun v m' => v = none ∧ FM rd pW m0 m' ∧ bgv (m'.2.2.2.1 (rd 25)) (va_up V n Xv)) := by
  refine jm_C_of (cd := cd_Mo_gatherWorth) (ini := false) (by decide +kernel) ok_Mo_gatherWorth (fun h => by cases h) (Nat.le_of_ble_eq_true rfl) ?_
  intro X hX'
  obtain ⟨ov, T, h1, h2, h3⟩ := hC
  have k16 : mkin 16 := Or.inr (Or.inl (by decide))
  have k23 : mkin 23 := Or.inr (Or.inl (by decide))
  have k25 : mkin 25 := Or.inr (Or.inl (by decide))
  have k26 : mkin 26 := Or.inr (Or.inl (by decide))
  have k30 : mkin 30 := Or.inr (Or.inr (Or.inl rfl))
  have o0 : ∀ {m : jm_M}, MST m rd → jm_ok m (rd 0) 6 := fun S => S.ok (Or.inl (by decide))
  generalize hres : (fun q => smp (prm q) (fun j => T q (9 * j + nd) * (wt j % prm q)) 9) = res
  have hresp : ∀ q, q < 8 → res q < prm q := fun q hq => by rw [← hres]; exact smp_lt (by have := prm_b q hq; omega) 9
  have hresc : ∀ q, q < 8 → (prm q : Int) ∣ (res q : Int) - (Xv : Int) := fun q hq => by
    rw [hX, ← hres]
    refine dv_tr (smp_cg (prm q) (fun j => T q (9 * j + nd) * (wt j % prm q)) 9) (dv_S2 fun j hj => ?_)
    have g1 := (h3 q hq).2.2.2 j nd hj hnd
    have g2 := nmod_dv (wt j) (prm q)
    show (prm q : Int) ∣ ((T q (9 * j + nd) * (wt j % prm q) : Nat) : Int) - _
    rw [Int.natCast_mul]
    obtain ⟨x, hx⟩ := g1
    obtain ⟨y, hy⟩ := g2
    generalize ds_C (fl_b (btz Wv Tb) 9) 9 j (9 + nd) = U at *
    generalize (T q (9 * j + nd) : Int) = a at *
    generalize ((wt j % prm q : Nat) : Int) = bb at *
    generalize (wt j : Int) = cc at *
    generalize (prm q : Int) = P0 at *
    refine ⟨x * bb + U * y, ?_⟩
    have z1 : a = U + P0 * x := by omega
    have z2 : bb = cc + P0 * y := by omega
    rw [z1, z2]; grind
  have loop : ∀ (e q : Nat), q + e = 8 → X 2 [(0, .ref (rd 0)), (1, .int (nI nd)), (2, .int (nI n)), (3, .int (nI q))] [] (uJA m0 (rd 26) (lfil (m0.2.2.2.1 (rd 26)) res q)) 0 0 := by
    intro e
    induction e with
    | zero =>
      intro i hi
      have hi2 : i = 8 := by omega
      subst hi2
      generalize hm1 : uJA m0 (rd 26) (lfil (m0.2.2.2.1 (rd 26)) res 8) = m1
      have hF1 : FM rd pW m0 m1 := by rw [← hm1]; exact FM.uJA k26 (Or.inr (Or.inl rfl))
      have S1 := hF1.S S0
      have kga := c_Mo_gather (l := l) (D := D) (ca := ca) (V := V) (r := res) (n := n) (Xv := Xv) S1 (by rw [← hm1]; show lrow (va_up m0.2.2.2.1 (rd 26) _ (rd 16)) _ _; rw [va_up_ne _ _ (S0.ne k16 k26 (by decide))]; exact hP) (by rw [← hm1]; show lrow (va_up m0.2.2.2.1 (rd 26) _ (rd 26)) _ _; rw [va_up_self]; exact lfil_row) (by rw [← hm1]; show bgv (va_up m0.2.2.2.1 (rd 26) _ (rd 25)) _; rw [va_up_ne _ _ (S0.ne k25 k26 (by decide))]; exact hg) hn hresp hresc hX9
      refine jm_run hX' [] 20 ?_
      refine And.intro (fun _ => ?_) (fun g => absurd (nI_le (Nat.le_refl 8) (by decide)) (show ¬ nI 8 ≤ nI 8 from g))
      refine And.intro (o0 S1) (And.intro (Nat.le_of_ble_eq_true rfl) (And.intro (Nat.le_of_ble_eq_true rfl) ⟨0, 0, _, Nat.le_refl _, Nat.le_refl _, kga, fun v m2 hq => ?_⟩))
      obtain ⟨rfl, hF2, hb2⟩ := hq
      exact ⟨Nat.le_refl _, Nat.le_refl _, trivial, rfl, hF1.tr (hF2.mo (fun k w => pG_W w)), hb2⟩
    | succ e ih =>
      intro q hq
      have hb := prm_b q (by omega)
      generalize hmm : uJA m0 (rd 26) (lfil (m0.2.2.2.1 (rd 26)) res q) = m
      have hF : FM rd pW m0 m := by rw [← hmm]; exact FM.uJA k26 (Or.inr (Or.inl rfl))
      have S := hF.S S0
      have jo : ∀ k, mkin k → k ≠ 26 → m.2.2.2.1 (rd k) = m0.2.2.2.1 (rd k) := fun k hk h => by rw [← hmm]; exact va_up_ne _ _ (S0.ne hk k26 h)
      have hnp : ¬ lN (prm q) = lN 0 := by rw [pk_lEQ (by omega) (by decide)]; omega
      have wlt : ∀ j, wt j % prm q < prm q := fun j => Nat.mod_lt _ (by omega)
      have mid : ∀ (f2 j : Nat), j + f2 = 9 → X 22 [(0, .ref (rd 0)), (1, .int (nI nd)), (2, .int (nI n)), (3, .int (nI q)), (4, .long (lN (prm q))), (6, .long (lN (smp (prm q) (fun j => T q (9 * j + nd) * (wt j % prm q)) j))), (8, .int (nI j))] [] m 0 0 := by
        intro f2
        induction f2 with
        | zero =>
          intro j hj
          have hj2 : j = 9 := by omega
          subst hj2
          have hr9 : smp (prm q) (fun j => T q (9 * j + nd) * (wt j % prm q)) 9 = res q := by rw [← hres]
          rw [hr9]
          refine jm_run hX' [(2, [0, 1, 2, 3])] 20 ?_
          refine And.intro (fun _ => ?_) (fun g => absurd (nI_le (Nat.le_refl 9) (by decide)) (show ¬ nI 9 ≤ nI 9 from g))
          refine And.intro (o0 S) ⟨some (rd 26), S.2.2 26 k26 (by decide), And.intro (S.ok k26) (And.intro (vin_of (S.len k26) (show q < 8 by omega) (by decide)) ?_)⟩
          have kk := ih (q + 1) (by omega)
          rw [← lfil_s, ← uJ_uJA, hmm, ← nI_1] at kk
          have e2 : (nI q).toNatClampNeg = q := nI_c (by omega)
          have kk2 : X 2 [(0, .ref (rd 0)), (1, .int (nI nd)), (2, .int (nI n)), (3, .int (nI q + 1))] [] (uJ m (rd 26) (nI q).toNatClampNeg (lN (res q))) 0 0 := by
            rw [e2]; exact kk
          exact kk2
        | succ f2 ihf =>
          intro j hj
          have ei := ixT q j nd
          have ev : m.2.2.2.1 (rd 30) (nI j).toNatClampNeg = lN (wt j) := by rw [nI_c (by omega), jo 30 k30 (by decide)]; exact hw j (by omega)
          have evt : m.2.2.2.1 (rd 23) ((81 : Int32) * nI q + (9 : Int32) * nI j + nI nd).toNatClampNeg = lN (T q (9 * j + nd)) := by rw [ei, nI_c (by omega), jo 23 k23 (by decide)]; exact h2 q (by omega) (9 * j + nd) (by omega)
          have hwj := hwb j (by omega)
          have e1 : m.2.2.2.1 (rd 30) (nI j).toNatClampNeg - m.2.2.2.1 (rd 30) (nI j).toNatClampNeg / lN (prm q) * lN (prm q) = lN (wt j % prm q) := by rw [ev]; exact pk_lRem (by omega) (by omega) (by omega)
          have hs := smp_lt (f := fun j => T q (9 * j + nd) * (wt j % prm q)) (show 0 < prm q by omega) j
          have hT9 := (h3 q (by omega)).2.1 (9 * j + nd) (by omega)
          have hw9 := wlt j
          have hpr : T q (9 * j + nd) * (wt j % prm q) < 2 ^ 62 := Nat.lt_of_lt_of_le (Nat.mul_lt_mul'' (show T q (9 * j + nd) < 2 ^ 31 by omega) (show wt j % prm q < 2 ^ 31 by omega)) (by decide)
          have e2 : (lN (smp (prm q) (fun j => T q (9 * j + nd) * (wt j % prm q)) j) + m.2.2.2.1 (rd 23) ((81 : Int32) * nI q + (9 : Int32) * nI j + nI nd).toNatClampNeg * (m.2.2.2.1 (rd 30) (nI j).toNatClampNeg - m.2.2.2.1 (rd 30) (nI j).toNatClampNeg / lN (prm q) * lN (prm q))) - (lN (smp (prm q) (fun j => T q (9 * j + nd) * (wt j % prm q)) j) + m.2.2.2.1 (rd 23) ((81 : Int32) * nI q + (9 : Int32) * nI j + nI nd).toNatClampNeg * (m.2.2.2.1 (rd 30) (nI j).toNatClampNeg - m.2.2.2.1 (rd 30) (nI j).toNatClampNeg / lN (prm q) * lN (prm q))) / lN (prm q) * lN (prm q) = lN (smp (prm q) (fun j => T q (9 * j + nd) * (wt j % prm q)) (j + 1)) := by
            rw [e1, evt, lN_mul, lN_add, pk_lRem (by omega) (by omega) (by omega)]; rfl
          refine jm_run hX' [(22, [0, 1, 2, 3, 4, 6, 8])] 50 ?_
          refine And.intro (fun g => absurd (show nI 9 ≤ nI j from g) (nI_ge (by omega) (by omega))) (fun _ => ?_)
          refine And.intro (o0 S) ⟨some (rd 23), S.2.2 23 k23 (by decide), And.intro (S.ok k23) (And.intro ?_ ?_)⟩
          · show vp_in ((81 : Int32) * nI q + (9 : Int32) * nI j + nI nd) (m.2.1 (rd 23)).2
            rw [ei]; exact vin_of (S.len k23) (show 81 * q + (9 * j + nd) < 648 by omega) (by decide)
          refine And.intro (o0 S) ⟨some (rd 30), S.2.2 30 k30 (by decide), And.intro (S.ok k30) (And.intro (vin_of (S.len k30) (show j < 9 by omega) (by decide)) (And.intro hnp (And.intro hnp ?_)))⟩
          have kk := ihf (j + 1) (by omega)
          rw [← e2, ← nI_1] at kk
          exact kk
      have ev16 : m.2.2.2.1 (rd 16) (nI q).toNatClampNeg = lN (prm q) := by rw [nI_c (by omega), jo 16 k16 (by decide)]; exact hP q (by omega)
      refine jm_run hX' [(22, [0, 1, 2, 3, 4, 6, 8])] 20 ?_
      refine And.intro (fun g => absurd (show nI 8 ≤ nI q from g) (nI_ge (by omega) (by omega))) (fun _ => ?_)
      refine And.intro (o0 S) ⟨some (rd 16), S.2.2 16 k16 (by decide), And.intro (S.ok k16) (And.intro (vin_of (S.len k16) (show q < 8 by omega) (by decide)) ?_)⟩
      have kk := mid 9 0 (by omega)
      rw [← ev16] at kk
      have e0 : smp (prm q) (fun j => T q (9 * j + nd) * (wt j % prm q)) 0 = 0 := rfl
      rw [e0] at kk
      exact kk
  refine jm_run hX' [(2, [0, 1, 2, 3])] 10 ?_
  have kk := loop 8 0 (by omega)
  rw [lfil_0, uJA_id] at kk
  exact kk
/-! The line as the reference holds it: f 0 now, f 1 as it was solved. -/
def MV (m : jm_M) (rd : Nat → Nat) (f : Nat) (R : RD) : Prop :=
  m.2.2.1 (rd 0) 0 = nI R.K ∧ m.2.2.1 (rd 1) f = nI R.M ∧ m.2.2.1 (rd 2) f = nI R.P ∧ (∀ j, j < 3 → m.2.2.1 (rd 3) (3 * f + j) = nI (R.O j)) ∧ (∀ i, i < 9 → m.2.2.1 (rd 4) (9 * f + i) = R.J i) ∧ (∀ q, q < 18 → m.2.2.1 (rd 5) (18 * f + q) = nI (R.A q) ∧ m.2.2.1 (rd 6) (18 * f + q) = nI (R.B q)) ∧
  ∀ r, r < 9 → m.2.2.1 (rd 7) (9 * f + r) = nI (R.T r) ∧ m.2.2.1 (rd 8) (9 * f + r) = nI (R.C r) ∧ m.2.2.1 (rd 9) (9 * f + r) = nI (R.E r) ∧ m.2.2.1 (rd 10) (9 * f + r) = nI (R.F r)
theorem MV.fm {m m' : jm_M} {rd : Nat → Nat} {p : Nat → Prop} {f : Nat} {R : RD} (S : MST m rd) (h : MV m rd f R) (hF : FM rd p m m') (hp : ∀ k, p k → 11 ≤ k) : MV m' rd f R := by
  have at' : ∀ k, k ≤ 10 → m'.2.2.1 (rd k) = m.2.2.1 (rd k) := fun k hk => (hF.at S (Or.inl (by omega)) (fun w => by have := hp k w; omega)).1
  unfold MV
  rw [at' 0 (by decide), at' 1 (by decide), at' 2 (by decide), at' 3 (by decide), at' 4 (by decide), at' 5 (by decide), at' 6 (by decide), at' 7 (by decide), at' 8 (by decide), at' 9 (by decide), at' 10 (by decide)]
  exact h
theorem c_Mo_shareAt {m : jm_M} {o f j k s : Nat} : jm_C l D ca n_Mo_shareAt [.ref o, .int (nI f), .int (nI j), .int (nI k), .int (nI s)] m 0 0 (fun v m' => m' = m ∧ v = some (.int (nI (18 * f + (2 * (3 * j + k) + s))))) := by
  refine jm_C_of (cd := cd_Mo_shareAt) (ini := false) (by decide +kernel) ok_Mo_shareAt (fun h => by cases h) (Nat.le_of_ble_eq_true rfl) ?_
  intro X hX
  refine jm_run hX [] 20 ?_
  refine ⟨Nat.le_refl _, Nat.le_refl _, trivial, rfl, ?_⟩
  show some (Value.int (nI 18 * nI f + nI 2 * (nI 3 * nI j + nI k) + nI s)) = _
  rw [pk_mul, pk_mul, nI_add, pk_mul, nI_add, nI_add, Nat.add_assoc]
theorem c_Mo_common {m : jm_M} {rd : Nat → Nat} {f j k : Nat} {R : RD} (S : MST m rd) (h : MV m rd f R) (hf : f < 2) (hj : j < 3) (hk : k < 3) (hR : ROK R) : jm_C l D ca n_Mo_common [.ref (rd 0), .int (nI f), .int (nI j), .int (nI k)] m 0 0 (fun v m' => m' = m ∧ v = some (.long (lN (rcom R j k)))) := by
  refine jm_C_of (cd := cd_Mo_common) (ini := false) (by decide +kernel) ok_Mo_common (fun h => by cases h) (Nat.le_of_ble_eq_true rfl) ?_
  intro X hX
  have o0 : jm_ok m (rd 0) 6 := S.ok (Or.inl (by decide))
  have k6 : mkin 6 := Or.inl (by decide)
  have e : ∀ s, s < 2 → (m.2.2.1 (rd 6) (nI (18 * f + (2 * (3 * j + k) + s))).toNatClampNeg).toInt64 = lN (R.B (2 * (3 * j + k) + s)) := fun s hs => by
    rw [nI_c (by omega), (h.2.2.2.2.2.1 _ (by omega)).2]
    exact nI_l (by have := (hR.2.2.2.2.2.1 (2 * (3 * j + k) + s) (by omega)).1; omega)
  have hin : ∀ s, s < 2 → vp_in (nI (18 * f + (2 * (3 * j + k) + s))) (m.2.1 (rd 6)).2 := fun s hs => vin_of (S.len k6) (show 18 * f + (2 * (3 * j + k) + s) < 36 by omega) (by decide)
  have k0 := c_Mo_shareAt (l := l) (D := D) (ca := ca) (m := m) (o := rd 0) (f := f) (j := j) (k := k) (s := 0)
  have k1 := c_Mo_shareAt (l := l) (D := D) (ca := ca) (m := m) (o := rd 0) (f := f) (j := j) (k := k) (s := 1)
  refine jm_run hX [] 30 ?_
  refine And.intro o0 ⟨some (rd 6), S.2.2 6 k6 (by decide), ?_⟩
  refine And.intro o0 (And.intro (Nat.le_of_ble_eq_true rfl) (And.intro (Nat.le_of_ble_eq_true rfl) ⟨0, 0, _, Nat.le_refl _, Nat.le_refl _, k0, fun v m' hq => ?_⟩))
  obtain ⟨ee, rfl⟩ := hq
  have ee := ee.symm
  subst ee
  refine And.intro (S.ok k6) (And.intro (hin 0 (by decide)) ?_)
  refine And.intro o0 ⟨some (rd 6), S.2.2 6 k6 (by decide), ?_⟩
  refine And.intro o0 (And.intro (Nat.le_of_ble_eq_true rfl) (And.intro (Nat.le_of_ble_eq_true rfl) ⟨0, 0, _, Nat.le_refl _, Nat.le_refl _, k1, fun v m' hq => ?_⟩))
  obtain ⟨ee, rfl⟩ := hq
  have ee := ee.symm
  subst ee
  refine And.intro (S.ok k6) (And.intro (hin 1 (by decide)) ?_)
  refine ⟨Nat.le_refl _, Nat.le_refl _, trivial, rfl, ?_⟩
  show some (Value.long ((m.2.2.1 (rd 6) (nI (18 * f + (2 * (3 * j + k) + 0))).toNatClampNeg).toInt64 * (m.2.2.1 (rd 6) (nI (18 * f + (2 * (3 * j + k) + 1))).toNatClampNeg).toInt64)) = _
  rw [e 0 (by decide), e 1 (by decide), lN_mul]; rfl
theorem c_Mo_part {m : jm_M} {rd : Nat → Nat} {f j k o : Nat} {R : RD} (S : MST m rd) (h : MV m rd f R) (hf : f < 2) (hj : j < R.M) (hk : k < 3) (ho : o < R.O j) (hR : ROK R) : jm_C l D ca n_Mo_part [.ref (rd 0), .int (nI f), .int (nI j), .int (nI k), .int (nI o)] m 0 0 (fun v m' => m' = m ∧ v = some (.long (lN (rpart R j k o)))) := by
  refine jm_C_of (cd := cd_Mo_part) (ini := false) (by decide +kernel) ok_Mo_part (fun h => by cases h) (Nat.le_of_ble_eq_true rfl) ?_
  intro X hX
  have hM := hR.2.1
  have hou := hR.2.2.2.1 j hj
  have o0 : jm_ok m (rd 0) 6 := S.ok (Or.inl (by decide))
  have k3 : mkin 3 := Or.inl (by decide)
  have k5 : mkin 5 := Or.inl (by decide)
  have k6 : mkin 6 := Or.inl (by decide)
  have b5 : ∀ s, s < 2 → (1 ≤ R.B (2 * (3 * j + k) + s) ∧ R.B (2 * (3 * j + k) + s) ≤ 12) ∧ R.A (2 * (3 * j + k) + s) ≤ R.B (2 * (3 * j + k) + s) := fun s hs => hR.2.2.2.2.2.1 _ (by omega)
  have e6 : ∀ s, s < 2 → (m.2.2.1 (rd 6) (nI (18 * f + (2 * (3 * j + k) + s))).toNatClampNeg).toInt64 = lN (R.B (2 * (3 * j + k) + s)) := fun s hs => by
    rw [nI_c (by omega), (h.2.2.2.2.2.1 _ (by omega)).2]
    exact nI_l (by have := (b5 s hs).1; omega)
  have e5 : ∀ s, s < 2 → (m.2.2.1 (rd 5) (nI (18 * f + (2 * (3 * j + k) + s))).toNatClampNeg).toInt64 = lN (R.A (2 * (3 * j + k) + s)) := fun s hs => by
    rw [nI_c (by omega), (h.2.2.2.2.2.1 _ (by omega)).1]
    exact nI_l (by have := b5 s hs; omega)
  have hin5 : ∀ s, s < 2 → vp_in (nI (18 * f + (2 * (3 * j + k) + s))) (m.2.1 (rd 5)).2 := fun s hs => vin_of (S.len k5) (show 18 * f + (2 * (3 * j + k) + s) < 36 by omega) (by decide)
  have hin6 : ∀ s, s < 2 → vp_in (nI (18 * f + (2 * (3 * j + k) + s))) (m.2.1 (rd 6)).2 := fun s hs => vin_of (S.len k6) (show 18 * f + (2 * (3 * j + k) + s) < 36 by omega) (by decide)
  have kk0 := c_Mo_shareAt (l := l) (D := D) (ca := ca) (m := m) (o := rd 0) (f := f) (j := j) (k := k) (s := 0)
  have kk1 := c_Mo_shareAt (l := l) (D := D) (ca := ca) (m := m) (o := rd 0) (f := f) (j := j) (k := k) (s := 1)
  have kco := c_Mo_common (l := l) (D := D) (ca := ca) S h hf (show j < 3 by omega) hk hR
  have hs := hR.2.2.2.2.2.2.1 (3 * j + k) (by omega)
  have hrp : rpart R j k o = if o + 1 = R.O j then rcom R j k - (if 2 ≤ R.O j then R.A (2 * (3 * j + k)) * R.B (2 * (3 * j + k) + 1) else 0) - (if 3 ≤ R.O j then R.A (2 * (3 * j + k) + 1) * R.B (2 * (3 * j + k)) else 0) else if o = 0 then R.A (2 * (3 * j + k)) * R.B (2 * (3 * j + k) + 1) else R.A (2 * (3 * j + k) + 1) * R.B (2 * (3 * j + k)) := rfl
  have hcom : rcom R j k = R.B (2 * (3 * j + k)) * R.B (2 * (3 * j + k) + 1) := rfl
  have eA0 := e5 0 (by decide)
  have eA1 := e5 1 (by decide)
  have eB0 := e6 0 (by decide)
  have eB1 := e6 1 (by decide)
  rw [Nat.add_zero] at eA0 eB0
  generalize hfi : R.A (2 * (3 * j + k)) * R.B (2 * (3 * j + k) + 1) = fi at *
  generalize hse : R.A (2 * (3 * j + k) + 1) * R.B (2 * (3 * j + k)) = se at *
  rw [← hcom] at hs
  generalize hco : rcom R j k = co at *
  have ex3 : (3 : Int32) * nI f + nI j = nI (3 * f + j) := by
    have : (3 : Int32) * nI f = nI (3 * f) := pk_mul 3 f
    rw [this, nI_add]
  have eo : m.2.2.1 (rd 3) ((3 : Int32) * nI f + nI j).toNatClampNeg - 1 = nI (R.O j - 1) := by
    rw [ex3, nI_c (by omega), h.2.2.2.1 j (by omega)]
    obtain ⟨u, hu⟩ : ∃ u, R.O j = u + 1 := ⟨R.O j - 1, by omega⟩
    rw [hu, ← nI_1, show u + 1 - 1 = u by omega]
    exact Int32.add_sub_cancel ..
  have hin3 : vp_in ((3 : Int32) * nI f + nI j) (m.2.1 (rd 3)).2 := by rw [ex3]; exact vin_of (S.len k3) (show 3 * f + j < 6 by omega) (by decide)
  -- the end, with rest on the stack
  have k108 : X 108 [(4, .int (nI o)), (5, .long (lN fi)), (7, .long (lN se)), (9, .int (nI (R.O j - 1)))] [.long (lN (co - (if 2 ≤ R.O j then fi else 0) - (if 3 ≤ R.O j then se else 0)))] m 0 0 := by
    refine jm_run hX [] 30 ?_
    refine And.intro (fun g => ?_) (fun g => ?_)
    · have g : nI o = nI (R.O j - 1) := g
      rw [nI_eq (by omega) (by omega)] at g
      exact ⟨Nat.le_refl _, Nat.le_refl _, trivial, rfl, by rw [hrp, if_pos (show o + 1 = R.O j by omega)]⟩
    · have g : ¬ nI o = nI (R.O j - 1) := g
      rw [nI_eq (by omega) (by omega)] at g
      refine And.intro (fun g2 => ?_) (fun g2 => ?_)
      · have g2 : nI o = nI 0 := g2
        rw [nI_eq (by omega) (by omega)] at g2
        exact ⟨Nat.le_refl _, Nat.le_refl _, trivial, rfl, by rw [hrp, if_neg (by omega), if_pos g2]⟩
      · have g2 : ¬ nI o = nI 0 := g2
        rw [nI_eq (by omega) (by omega)] at g2
        exact ⟨Nat.le_refl _, Nat.le_refl _, trivial, rfl, by rw [hrp, if_neg (by omega), if_neg g2]⟩
  have k94 : ∀ x, x = (if 2 ≤ R.O j then fi else 0) → X 94 [(4, .int (nI o)), (5, .long (lN fi)), (7, .long (lN se)), (9, .int (nI (R.O j - 1)))] [.long (lN x), .long (lN co)] m 0 0 := by
    intro x hx
    have hx1 : x ≤ co := by rw [hx]; split <;> omega
    have e1 : lN co - lN x = lN (co - x) := lN_sub hx1
    refine jm_run hX [(108, [4, 5, 7, 9])] 30 ?_
    refine And.intro (fun g => ?_) (fun g => ?_)
    · have g : nI (R.O j - 1) ≤ nI 1 := g
      rw [iNle (by decide), nI_toInt (by omega)] at g
      rw [if_neg (show ¬ 3 ≤ R.O j by omega), ← hx, Nat.sub_zero, ← e1] at k108
      have e2 : lN co - lN x - 0 = lN co - lN x := Int64.sub_zero _
      rw [← e2] at k108
      exact k108
    · have g : ¬ nI (R.O j - 1) ≤ nI 1 := g
      rw [iNle (by decide), nI_toInt (by omega)] at g
      have hx2 : x = fi := by rw [hx, if_pos (by omega)]
      rw [if_pos (show 3 ≤ R.O j by omega), ← hx, ← lN_sub (show se ≤ co - x by rw [hx2]; omega), ← e1] at k108
      exact k108
  have k83 : X 83 [(4, .int (nI o)), (5, .long (lN fi)), (7, .long (lN se)), (9, .int (nI (R.O j - 1)))] [.long (lN co)] m 0 0 := by
    refine jm_run hX [(94, [4, 5, 7, 9])] 20 ?_
    refine And.intro (fun g => ?_) (fun g => ?_)
    · have g : nI (R.O j - 1) ≤ nI 0 := g
      rw [iNle (by decide), nI_toInt (by omega)] at g
      exact k94 0 (by rw [if_neg (by omega)])
    · have g : ¬ nI (R.O j - 1) ≤ nI 0 := g
      rw [iNle (by decide), nI_toInt (by omega)] at g
      exact k94 fi (by rw [if_pos (by omega)])
  refine jm_run hX [(83, [4, 5, 7, 9])] 80 ?_
  refine And.intro o0 ⟨some (rd 5), S.2.2 5 k5 (by decide), ?_⟩
  refine And.intro o0 (And.intro (Nat.le_of_ble_eq_true rfl) (And.intro (Nat.le_of_ble_eq_true rfl) ⟨0, 0, _, Nat.le_refl _, Nat.le_refl _, kk0, fun v m' hq => ?_⟩))
  obtain ⟨ee, rfl⟩ := hq
  have ee := ee.symm
  subst ee
  refine And.intro (S.ok k5) (And.intro (hin5 0 (by decide)) ?_)
  refine And.intro o0 ⟨some (rd 6), S.2.2 6 k6 (by decide), ?_⟩
  refine And.intro o0 (And.intro (Nat.le_of_ble_eq_true rfl) (And.intro (Nat.le_of_ble_eq_true rfl) ⟨0, 0, _, Nat.le_refl _, Nat.le_refl _, kk1, fun v m' hq => ?_⟩))
  obtain ⟨ee, rfl⟩ := hq
  have ee := ee.symm
  subst ee
  refine And.intro (S.ok k6) (And.intro (hin6 1 (by decide)) ?_)
  refine And.intro o0 ⟨some (rd 5), S.2.2 5 k5 (by decide), ?_⟩
  refine And.intro o0 (And.intro (Nat.le_of_ble_eq_true rfl) (And.intro (Nat.le_of_ble_eq_true rfl) ⟨0, 0, _, Nat.le_refl _, Nat.le_refl _, kk1, fun v m' hq => ?_⟩))
  obtain ⟨ee, rfl⟩ := hq
  have ee := ee.symm
  subst ee
  refine And.intro (S.ok k5) (And.intro (hin5 1 (by decide)) ?_)
  refine And.intro o0 ⟨some (rd 6), S.2.2 6 k6 (by decide), ?_⟩
  refine And.intro o0 (And.intro (Nat.le_of_ble_eq_true rfl) (And.intro (Nat.le_of_ble_eq_true rfl) ⟨0, 0, _, Nat.le_refl _, Nat.le_refl _, kk0, fun v m' hq => ?_⟩))
  obtain ⟨ee, rfl⟩ := hq
  have ee := ee.symm
  subst ee
  refine And.intro (S.ok k6) (And.intro (hin6 0 (by decide)) ?_)
  refine And.intro o0 ⟨some (rd 3), S.2.2 3 k3 (by decide), And.intro (S.ok k3) (And.intro hin3 ?_)⟩
  refine And.intro o0 (And.intro (Nat.le_of_ble_eq_true rfl) (And.intro (Nat.le_of_ble_eq_true rfl) ⟨0, 0, _, Nat.le_refl _, Nat.le_refl _, kco, fun v m' hq => ?_⟩))
  obtain ⟨ee, rfl⟩ := hq
  have ee := ee.symm
  subst ee
  rw [← eo, ← hfi, ← hse, ← lN_mul, ← lN_mul, ← eA0, ← eA1, ← eB0, ← eB1] at k83
  exact k83
end RB11
