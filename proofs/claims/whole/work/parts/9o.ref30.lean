section RB31
variable {l : Launch} {D : va_G} {ca : Nat → ClassId}
def rpuV (R : RD) (p : Nat) (kd : Int32) (pt : Nat) : Int64 := if rAm R (wpt R p (-1)) = 0 then -1 else lN (ppart (rAm R (wpt R p kd)) (rAm R (wpt R p (-1))) pt)
theorem c_Mo_purity {m : jm_M} {rd : Nat → Nat} {A : RSt} {n : Nat} (h : MI m rd A n) (hn : n < 2 ^ 31) (hS : A.2.2.2.2.2.1 = true → STD A.2.1) (x y z : Int32) : jm_C l D ca n_Mo_purity [.ref (rd 0), .int x, .int y, .int z] m 0 0 (fun v m' => FMa rd m m' ∧ MI m' rd A n ∧ ((routC A x y z ∧ v = some (.long (rpuV A.2.1 x.toInt.toNat y z.toInt.toNat))) ∨ (¬ routC A x y z ∧ v = some (.long (-1))))) := by
  refine jm_C_of (cd := cd_Mo_purity) (ini := false) (by decide +kernel) ok_Mo_purity (fun h => by cases h) (Nat.le_of_ble_eq_true rfl) ?_
  intro X hX
  have S := h.1
  have o0 : ∀ {m : jm_M}, MST m rd → jm_ok m (rd 0) 6 := fun S => S.ok (Or.inl (by decide))
  have k2 : mkin 2 := Or.inl (by decide)
  have k0 : mkin 0 := Or.inl (by decide)
  have k25 : mkin 25 := Or.inr (Or.inl (by decide))
  have k30 : mkin 30 := Or.inr (Or.inr (Or.inl rfl))
  have hV1 : MV m rd 1 A.2.1 := (h.2.1 1 (by decide)).1
  have hR1 : ROK A.2.1 := (h.2.1 1 (by decide)).2
  have hP : A.2.1.P ≤ 3 := hR1.2.2.1
  have e14 : m.2.2.1 (rd 0) 14 = bI A.2.2.2.2.2.1 := h.2.2.2.2.2.1
  have eP : m.2.2.1 (rd 2) 1 = nI A.2.1.P := hV1.2.2.1
  have no : ¬ routC A x y z → X 39 [(0, .ref (rd 0)), (1, .int x), (2, .int y), (3, .int z)] [] m 0 0 := fun hn => by
    refine jm_run hX [] 5 ?_
    exact ⟨Nat.le_refl _, Nat.le_refl _, trivial, FM.rf, h, Or.inr ⟨hn, rfl⟩⟩
  refine jm_run hX [(39, [0, 1, 2, 3]), (43, [0, 1, 2, 3])] 60 ?_
  refine And.intro (o0 S) ?_
  refine And.intro (fun g => ?_) (fun g => ?_)
  · have g : m.2.2.1 (rd 0) 14 = 0 := g
    rw [e14, bI_eq0] at g
    exact no (fun q => by rw [q.1] at g; cases g)
  have g : ¬ m.2.2.1 (rd 0) 14 = 0 := g
  rw [e14, bI_eq0, Bool.not_eq_false] at g
  refine And.intro (fun g2 => ?_) (fun g2 => ?_)
  · rw [ilt0] at g2
    exact no (fun q => absurd q.2.1.1 (by omega))
  rw [ilt0] at g2
  refine And.intro (o0 S) ⟨some (rd 2), S.2.2 2 k2 (by decide), And.intro (S.ok k2) (And.intro (show vp_in (nI 1) (m.2.1 (rd 2)).2 from vin_of (S.len k2) (by decide) (by decide)) ?_)⟩
  refine And.intro (fun g3 => ?_) (fun g3 => ?_)
  · have g3 : m.2.2.1 (rd 2) 1 ≤ x := g3
    rw [eP, ileN (by omega)] at g3
    exact no (fun q => absurd q.2.1.2 (by omega))
  have g3 : ¬ m.2.2.1 (rd 2) 1 ≤ x := g3
  rw [eP, ileN (by omega)] at g3
  refine And.intro (o0 S) (And.intro (Nat.le_of_ble_eq_true rfl) (And.intro (Nat.le_of_ble_eq_true rfl) ⟨0, 0, _, Nat.le_refl _, Nat.le_refl _, c_Mo_isKind h y, fun v m' hq => ?_⟩))
  obtain ⟨ee, rfl⟩ := hq
  have ee := ee.symm
  subst ee
  by_cases hy : isK A.1 y
  · rw [if_pos hy]
    refine And.intro (fun g => absurd g (by decide)) (fun _ => ?_)
    refine And.intro (fun g4 => ?_) (fun g4 => ?_)
    · rw [ilt0] at g4
      exact no (fun q => absurd q.2.2.2.1 (by omega))
    rw [ilt0] at g4
    refine And.intro (fun g5 => ?_) (fun g5 => ?_)
    · have g5 : z ≤ nI 6 := g5
      rw [iNle (by decide)] at g5
      have hall : routC A x y z := ⟨g, ⟨by omega, by omega⟩, hy, by omega, by omega⟩
      have hSt := hS g
      have ex : x = nI x.toInt.toNat := i_of (by omega)
      have k43 : X 43 [(0, .ref (rd 0)), (1, .int x), (2, .int y), (3, .int z)] [] m 0 0 := by
        refine jm_run hX [] 90 ?_
        refine And.intro (o0 S) (And.intro (Nat.le_of_ble_eq_true rfl) (And.intro (Nat.le_of_ble_eq_true rfl) ⟨0, 0, _, Nat.le_refl _, Nat.le_refl _, c_Mo_prepare h hn (f := 1) (by decide) hSt, fun v m1 hq => ?_⟩))
        obtain ⟨rfl, hFa1, hI1, hL1, hC1, ⟨V1, hb1, hv1⟩, hw1⟩ := hq
        have hL1 : LAY m1 rd A.2.1 := hL1
        have hC1 : CCR m1 rd A.2.1 := hC1
        have S1 := hI1.1
        have kw := c_Mo_weighPort (l := l) (D := D) (ca := ca) (p := x.toInt.toNat) (kd := y) S1 (hI1.2.1 1 (by decide)).1 hL1 hw1 (by decide) hR1
        rw [← ex] at kw
        refine And.intro (o0 S1) (And.intro (Nat.le_of_ble_eq_true rfl) (And.intro (Nat.le_of_ble_eq_true rfl) ⟨0, 0, _, Nat.le_refl _, Nat.le_refl _, kw, fun v m2 hq => ?_⟩))
        obtain ⟨rfl, hF2, hw2⟩ := hq
        have S2 := hF2.S S1
        have g25 : m2.2.2.2.1 (rd 25) = m1.2.2.2.1 (rd 25) := (hF2.at S1 k25 (by decide)).2
        have hI2 : MI m2 rd A n := hI1.mv hF2 (fun k w => by have : k = 30 := w; omega) (fun j _ _ => by rw [(hF2.at S1 k0 (by decide)).1]) ⟨_, by rw [g25]; exact hb1⟩
        have hw2 : lrow (m2.2.2.2.1 (rd 30)) (wpt A.2.1 x.toInt.toNat y) 9 := fun i hi => by rw [hw2 i hi]; dsimp only; rw [Nat.zero_add]; rfl
        have hC2 : CCR m2 rd A.2.1 := hC1.mv (hF2.at S1 (Or.inr (Or.inl (by decide))) (by decide)).2 (hF2.at S1 (Or.inr (Or.inl (by decide))) (by decide)).2
        have hL2 := hL1.fm S1 hF2 (fun k w w2 => by show ¬ k = 30; omega)
        have hfd : ∀ {m2 : jm_M}, MI m2 rd A n → ∀ i, i < 9 → m2.2.2.1 (rd 10) (9 * 1 + i) = nI (A.2.1.F i) ∧ A.2.1.F i ≤ 1000000 := fun hI2 i hi => ⟨((hI2.2.1 1 (by decide)).1.2.2.2.2.2.2 i hi).2.2.2, hR1.2.2.2.2.2.2.2.2.2 i hi⟩
        have hwl : ∀ (kd : Int32) q, q < 9 → wpt A.2.1 x.toInt.toNat kd q ≤ 2 ^ 24 := fun _ _ _ => wpt_le hR1 _ _ _
        have kg := c_Mo_gatherAmount (l := l) (D := D) (ca := ca) (f := 1) (n := 0) (Xv := rAm A.2.1 (wpt A.2.1 x.toInt.toNat y)) S2 hI2.2.2.1 hC2 (by rw [g25]; exact hb1) hw2 (fun j hj => Nat.lt_of_le_of_lt (hwl _ j hj) (by decide)) (by decide) (hfd hI2) (by decide) (hSt.am _) (sp24 (hSt.alt (hwl _)))
        refine And.intro (o0 S2) (And.intro (Nat.le_of_ble_eq_true rfl) (And.intro (Nat.le_of_ble_eq_true rfl) ⟨0, 0, _, Nat.le_refl _, Nat.le_refl _, kg, fun v m3 hq => ?_⟩))
        obtain ⟨rfl, hF3, hb3⟩ := hq
        have S3 := hF3.S S2
        have hI3 : MI m3 rd A n := hI2.mv hF3 (fun k w => by omega) (fun j _ _ => by rw [(hF3.at S2 k0 (by decide)).1]) ⟨_, hb3⟩
        have hC3 : CCR m3 rd A.2.1 := hC2.mv (hF3.at S2 (Or.inr (Or.inl (by decide))) (by decide)).2 (hF3.at S2 (Or.inr (Or.inl (by decide))) (by decide)).2
        have hL3 := hL2.fm S2 hF3 (fun k w w2 => by show ¬ (k = 25 ∨ k = 26 ∨ k = 27); omega)
        refine And.intro (o0 S3) (And.intro (Nat.le_of_ble_eq_true rfl) (And.intro (Nat.le_of_ble_eq_true rfl) ⟨0, 0, _, Nat.le_refl _, Nat.le_refl _, c_Mo_clearWeights S3, fun v m4 hq => ?_⟩))
        obtain ⟨rfl, em4⟩ := hq
        have hF4 : FM rd p30 m3 m4 := by rw [em4]; exact FM.uJA k30 rfl
        have S4 := hF4.S S3
        have g254 : m4.2.2.2.1 (rd 25) = m3.2.2.2.1 (rd 25) := (hF4.at S3 k25 (by decide)).2
        have hI4 : MI m4 rd A n := hI3.mv hF4 (fun k w => by have : k = 30 := w; omega) (fun j _ _ => by rw [(hF4.at S3 k0 (by decide)).1]) ⟨_, by rw [g254]; exact hb3⟩
        have hw4 : lrow (m4.2.2.2.1 (rd 30)) (fun _ => 0) 9 := by
          rw [em4]
          show lrow (va_up m3.2.2.2.1 (rd 30) _ (rd 30)) _ 9
          rw [va_up_self]; exact lfil_row
        have hL4 := hL3.fm S3 hF4 (fun k w w2 => by show ¬ k = 30; omega)
        have hC4 : CCR m4 rd A.2.1 := hC3.mv (hF4.at S3 (Or.inr (Or.inl (by decide))) (by decide)).2 (hF4.at S3 (Or.inr (Or.inl (by decide))) (by decide)).2
        have kw5 := c_Mo_weighPort (l := l) (D := D) (ca := ca) (p := x.toInt.toNat) (kd := -1) S4 (hI4.2.1 1 (by decide)).1 hL4 hw4 (by decide) hR1
        rw [← ex] at kw5
        refine And.intro (o0 S4) (And.intro (Nat.le_of_ble_eq_true rfl) (And.intro (Nat.le_of_ble_eq_true rfl) ⟨0, 0, _, Nat.le_refl _, Nat.le_refl _, kw5, fun v m5 hq => ?_⟩))
        obtain ⟨rfl, hF5, hw5⟩ := hq
        have S5 := hF5.S S4
        have g255 : m5.2.2.2.1 (rd 25) = m4.2.2.2.1 (rd 25) := (hF5.at S4 k25 (by decide)).2
        have hb5 : bgv (m5.2.2.2.1 (rd 25)) (va_up V1 0 (rAm A.2.1 (wpt A.2.1 x.toInt.toNat y))) := by rw [g255, g254]; exact hb3
        have hI5 : MI m5 rd A n := hI4.mv hF5 (fun k w => by have : k = 30 := w; omega) (fun j _ _ => by rw [(hF5.at S4 k0 (by decide)).1]) ⟨_, hb5⟩
        have hw5 : lrow (m5.2.2.2.1 (rd 30)) (wpt A.2.1 x.toInt.toNat (-1)) 9 := fun i hi => by rw [hw5 i hi]; dsimp only; rw [Nat.zero_add]; rfl
        have hC5 : CCR m5 rd A.2.1 := hC4.mv (hF5.at S4 (Or.inr (Or.inl (by decide))) (by decide)).2 (hF5.at S4 (Or.inr (Or.inl (by decide))) (by decide)).2
        have kg6 := c_Mo_gatherAmount (l := l) (D := D) (ca := ca) (f := 1) (n := 1) (Xv := rAm A.2.1 (wpt A.2.1 x.toInt.toNat (-1))) S5 hI5.2.2.1 hC5 hb5 hw5 (fun j hj => Nat.lt_of_le_of_lt (hwl _ j hj) (by decide)) (by decide) (hfd hI5) (by decide) (hSt.am _) (sp24 (hSt.alt (hwl _)))
        refine And.intro (o0 S5) (And.intro (Nat.le_of_ble_eq_true rfl) (And.intro (Nat.le_of_ble_eq_true rfl) ⟨0, 0, _, Nat.le_refl _, Nat.le_refl _, kg6, fun v m6 hq => ?_⟩))
        obtain ⟨rfl, hF6, hb6⟩ := hq
        have S6 := hF6.S S5
        have hI6 : MI m6 rd A n := hI5.mv hF6 (fun k w => by omega) (fun j _ _ => by rw [(hF6.at S5 k0 (by decide)).1]) ⟨_, hb6⟩
        have hFa6 := ((((hFa1.tr hF2.a).tr hF3.a).tr hF4.a).tr hF5.a).tr hF6.a
        have v1 : va_up (va_up V1 0 (rAm A.2.1 (wpt A.2.1 x.toInt.toNat y))) 1 (rAm A.2.1 (wpt A.2.1 x.toInt.toNat (-1))) 1 = rAm A.2.1 (wpt A.2.1 x.toInt.toNat (-1)) := va_up_self _ _ _
        have v0 : va_up (va_up V1 0 (rAm A.2.1 (wpt A.2.1 x.toInt.toNat y))) 1 (rAm A.2.1 (wpt A.2.1 x.toInt.toNat (-1))) 0 = rAm A.2.1 (wpt A.2.1 x.toInt.toNat y) := by rw [va_up_ne _ _ (by decide), va_up_self]
        refine And.intro (o0 S6) (And.intro (Nat.le_of_ble_eq_true rfl) (And.intro (Nat.le_of_ble_eq_true rfl) ⟨0, 0, _, Nat.le_refl _, Nat.le_refl _, c_Mo_isZero (n := 1) S6 hb6 (by decide), fun v m7 hq => ?_⟩))
        obtain ⟨ee, rfl⟩ := hq
        have ee := ee.symm
        subst ee
        rw [v1]
        by_cases w : rAm A.2.1 (wpt A.2.1 x.toInt.toNat (-1)) = 0
        · rw [if_pos w]
          refine And.intro (fun g => absurd g (by decide)) (fun _ => ?_)
          refine ⟨Nat.le_refl _, Nat.le_refl _, trivial, hFa6, hI6, Or.inl ⟨hall, ?_⟩⟩
          unfold rpuV
          rw [if_pos w]
        · rw [if_neg w]
          refine And.intro (fun _ => ?_) (fun g => absurd rfl g)
          have kp := c_Mo_partOf (l := l) (D := D) (ca := ca) (bl := false) S6 hb6 (by rw [v1]; omega) (by rw [v1]; exact sp22 (hSt.alt (hwl _))) z ⟨by omega, by omega⟩
          refine And.intro (o0 S6) (And.intro (Nat.le_of_ble_eq_true rfl) (And.intro (Nat.le_of_ble_eq_true rfl) ⟨0, 0, _, Nat.le_refl _, Nat.le_refl _, kp, fun v m8 hq => ?_⟩))
          obtain ⟨rfl, hF8, hIO, hb8⟩ := hq
          have hI8 : MI m8 rd A n := hI6.mv hF8 (fun k w => by omega) (fun j q1 q2 => hIO j q1 q2) hb8
          refine ⟨Nat.le_refl _, Nat.le_refl _, trivial, hFa6.tr hF8.a, hI8, Or.inl ⟨hall, ?_⟩⟩
          rw [v0, v1]
          unfold rpuV
          rw [if_neg w]; rfl
      exact k43
    · have g5 : ¬ z ≤ nI 6 := g5
      rw [iNle (by decide)] at g5
      exact no (fun q => absurd q.2.2.2.2 (by omega))
  · rw [if_neg hy]
    refine And.intro (fun _ => ?_) (fun g => absurd rfl g)
    exact no (fun q => hy q.2.2.1)
/-- does the line now bring so many grams of the kind to port 0 -/
def rbr (R : RD) (k g : Nat) : Prop := rStd R ∧ g ≤ rAm R (wpt R 0 (nI k)) / rDT R
theorem c_Mo_brings {m : jm_M} {rd : Nat → Nat} {A : RSt} {n k g : Nat} (h : MI m rd A n) (hn : n < 2 ^ 31) (hg : g ≤ 1000000000) (hS : rStd A.1 → STD A.1 ∧ rAm A.1 (wpt A.1 0 (nI k)) / rDT A.1 < 2 ^ 62) : jm_C l D ca n_Mo_brings [.ref (rd 0), .int (nI k), .long (lN g)] m 0 0 (fun v m' => FMa rd m m' ∧ MI m' rd A n ∧ ((v = some (.int 1) ∧ rbr A.1 k g) ∨ (v = some (.int 0) ∧ ¬ rbr A.1 k g))) := by
  refine jm_C_of (cd := cd_Mo_brings) (ini := false) (by decide +kernel) ok_Mo_brings (fun h => by cases h) (Nat.le_of_ble_eq_true rfl) ?_
  intro X hX
  have S := h.1
  have o0 : ∀ {m : jm_M}, MST m rd → jm_ok m (rd 0) 6 := fun S => S.ok (Or.inl (by decide))
  have k0 : mkin 0 := Or.inl (by decide)
  have k25 : mkin 25 := Or.inr (Or.inl (by decide))
  have hV : MV m rd 0 A.1 := (h.2.1 0 (by decide)).1
  have hR : ROK A.1 := (h.2.1 0 (by decide)).2
  have hM : A.1.M ≤ 3 := hR.2.1
  refine jm_run hX [] 60 ?_
  refine And.intro (o0 S) (And.intro (Nat.le_of_ble_eq_true rfl) (And.intro (Nat.le_of_ble_eq_true rfl) ⟨0, 0, _, Nat.le_refl _, Nat.le_refl _, c_Mo_layOut S hV (by decide) hR, fun v m1 hq => ?_⟩))
  obtain ⟨rfl, hF1, hL1⟩ := hq
  have S1 := hF1.S S
  have hI1 : MI m1 rd A n := by
    obtain ⟨V, hb⟩ := h.2.2.2.1
    exact h.mv hF1 (fun k w => by omega) (fun j _ _ => by rw [(hF1.at S k0 (by decide)).1]) ⟨V, by rw [(hF1.at S k25 (by decide)).2]; exact hb⟩
  refine And.intro (o0 S1) (And.intro (Nat.le_of_ble_eq_true rfl) (And.intro (Nat.le_of_ble_eq_true rfl) ⟨0, 0, _, Nat.le_refl _, Nat.le_refl _, c_Mo_stuck S1 (hI1.2.1 0 (by decide)).1 hL1 (by decide) hR, fun v m2 hq => ?_⟩))
  obtain ⟨ee, w, rfl, hx⟩ := hq
  have ee := ee.symm
  subst ee
  rcases hx with ⟨j, hj, hs, hns, rfl⟩ | ⟨hns, rfl⟩
  · have hj3 : j < A.1.M := hj
    refine And.intro (fun g => absurd g (nI_pos (by omega))) (fun _ => ?_)
    exact ⟨Nat.le_refl _, Nat.le_refl _, Or.inl rfl, hF1.a, hI1, Or.inr ⟨rfl, fun q => q.1 j hj hs⟩⟩
  · have hns : rStd A.1 := hns
    obtain ⟨hSt, hq62⟩ := hS hns
    refine And.intro (fun _ => ?_) (fun g => absurd (by decide) g)
    refine And.intro (o0 S1) (And.intro (Nat.le_of_ble_eq_true rfl) (And.intro (Nat.le_of_ble_eq_true rfl) ⟨0, 0, _, Nat.le_refl _, Nat.le_refl _, c_Mo_prepare hI1 hn (f := 0) (by decide) hSt, fun v m2 hq => ?_⟩))
    obtain ⟨rfl, hFa2, hI2, hL2, hC2, ⟨V2, hb2, hv2⟩, hw2⟩ := hq
    have hL2 : LAY m2 rd A.1 := hL2
    have hC2 : CCR m2 rd A.1 := hC2
    have hv2 : V2 1 = rDT A.1 := hv2
    have S2 := hI2.1
    have kw := c_Mo_weighPort (l := l) (D := D) (ca := ca) (p := 0) (kd := nI k) S2 (hI2.2.1 0 (by decide)).1 hL2 hw2 (by decide) hR
    refine And.intro (o0 S2) (And.intro (Nat.le_of_ble_eq_true rfl) (And.intro (Nat.le_of_ble_eq_true rfl) ⟨0, 0, _, Nat.le_refl _, Nat.le_refl _, kw, fun v m3 hq => ?_⟩))
    obtain ⟨rfl, hF3, hw3⟩ := hq
    have S3 := hF3.S S2
    have g25 : m3.2.2.2.1 (rd 25) = m2.2.2.2.1 (rd 25) := (hF3.at S2 k25 (by decide)).2
    have hI3 : MI m3 rd A n := hI2.mv hF3 (fun k w => by have : k = 30 := w; omega) (fun j _ _ => by rw [(hF3.at S2 k0 (by decide)).1]) ⟨_, by rw [g25]; exact hb2⟩
    have hw3 : lrow (m3.2.2.2.1 (rd 30)) (wpt A.1 0 (nI k)) 9 := fun i hi => by rw [hw3 i hi]; dsimp only; rw [Nat.zero_add]; rfl
    have hC3 : CCR m3 rd A.1 := hC2.mv (hF3.at S2 (Or.inr (Or.inl (by decide))) (by decide)).2 (hF3.at S2 (Or.inr (Or.inl (by decide))) (by decide)).2
    have hfd : ∀ i, i < 9 → m3.2.2.1 (rd 10) (9 * 0 + i) = nI (A.1.F i) ∧ A.1.F i ≤ 1000000 := fun i hi => ⟨((hI3.2.1 0 (by decide)).1.2.2.2.2.2.2 i hi).2.2.2, hR.2.2.2.2.2.2.2.2.2 i hi⟩
    have hwl : ∀ q, q < 9 → wpt A.1 0 (nI k) q ≤ 2 ^ 24 := fun _ _ => wpt_le hR _ _ _
    have kg := c_Mo_gatherAmount (l := l) (D := D) (ca := ca) (f := 0) (n := 0) (Xv := rAm A.1 (wpt A.1 0 (nI k))) S3 hI3.2.2.1 hC3 (by rw [g25]; exact hb2) hw3 (fun j hj => Nat.lt_of_le_of_lt (hwl j hj) (by decide)) (by decide) hfd (by decide) (hSt.am _) (sp24 (hSt.alt hwl))
    refine And.intro (o0 S3) (And.intro (Nat.le_of_ble_eq_true rfl) (And.intro (Nat.le_of_ble_eq_true rfl) ⟨0, 0, _, Nat.le_refl _, Nat.le_refl _, kg, fun v m4 hq => ?_⟩))
    obtain ⟨rfl, hF4, hb4⟩ := hq
    have S4 := hF4.S S3
    have hI4 : MI m4 rd A n := hI3.mv hF4 (fun k w => by omega) (fun j _ _ => by rw [(hF4.at S3 k0 (by decide)).1]) ⟨_, hb4⟩
    have v1 : va_up V2 0 (rAm A.1 (wpt A.1 0 (nI k))) 1 = rDT A.1 := by rw [va_up_ne _ _ (by decide)]; exact hv2
    have v0 : va_up V2 0 (rAm A.1 (wpt A.1 0 (nI k))) 0 = rAm A.1 (wpt A.1 0 (nI k)) := va_up_self _ _ _
    have kd := c_Mo_divide (l := l) (D := D) (ca := ca) (n := 0) S4 hb4 (by decide) (by decide) (by rw [v1]; exact (hSt.d (rfd A.1)).2) (by rw [v1]; exact Nat.lt_of_lt_of_le (sp22 hSt.dlt) (Nat.pow_le_pow_right (by decide) (by decide)))
    refine And.intro (o0 S4) (And.intro (Nat.le_of_ble_eq_true rfl) (And.intro (Nat.le_of_ble_eq_true rfl) ⟨0, 0, _, Nat.le_refl _, Nat.le_refl _, kd, fun v m5 hq => ?_⟩))
    obtain ⟨rfl, hF5, hIO, h29, hb5⟩ := hq
    have hI5 : MI m5 rd A n := hI4.mv hF5 (fun k w => by omega) (fun j q1 q2 => hIO j q1 q2) ⟨_, hb5⟩
    have hFa5 := (((hF1.a.tr hFa2).tr hF3.a).tr hF4.a).tr hF5.a
    rw [v0, v1]
    refine And.intro (fun g2 => ?_) (fun g2 => ?_)
    · have g2 : lg_cmp (lN (rAm A.1 (wpt A.1 0 (nI k)) / rDT A.1)) (lN g) < 0 := g2
      rw [lg_cmp_lt, pk_lLT (by omega) (by omega)] at g2
      exact ⟨Nat.le_refl _, Nat.le_refl _, Or.inl rfl, hFa5, hI5, Or.inr ⟨rfl, fun q => absurd q.2 (by omega)⟩⟩
    · have g2 : ¬ lg_cmp (lN (rAm A.1 (wpt A.1 0 (nI k)) / rDT A.1)) (lN g) < 0 := g2
      rw [lg_cmp_lt, pk_lLT (by omega) (by omega)] at g2
      exact ⟨Nat.le_refl _, Nat.le_refl _, Or.inr rfl, hFa5, hI5, Or.inl ⟨rfl, hns, by omega⟩⟩
end RB31
