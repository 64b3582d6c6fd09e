section RB27
variable {l : Launch} {D : va_G} {ca : Nat → ClassId}
theorem c_Mo_change {m : jm_M} {rd : Nat → Nat} {A : RSt} {n : Nat} (h : MI m rd A n) (x y z : Int32) (a b : Int64) : jm_C l D ca n_Mo_change [.ref (rd 0), .int x, .int y, .int z, .long a, .long b] m 0 0 (fun v m' => (v = some (.int 1) ∧ shR A.1 x y z a b ∧ FMa rd m m' ∧ ∃ m1 v2, rslvQ rd m1 (rTold A (rShare A.1 (2 * (3 * x.toInt.toNat + y.toInt.toNat) + z.toInt.toNat) a.toInt.toNat b.toInt.toNat)) (n + 1) v2 m') ∨ (v = some (.int 0) ∧ ¬ shR A.1 x y z a b ∧ m' = m)) := by
  refine jm_C_of (cd := cd_Mo_change) (ini := false) (by decide +kernel) ok_Mo_change (fun h => by cases h) (Nat.le_of_ble_eq_true rfl) ?_
  intro X hX
  have S := h.1
  have o0 : ∀ {m : jm_M}, MST m rd → jm_ok m (rd 0) 6 := fun S => S.ok (Or.inl (by decide))
  refine jm_run hX [] 60 ?_
  refine And.intro (o0 S) (And.intro (Nat.le_of_ble_eq_true rfl) (And.intro (Nat.le_of_ble_eq_true rfl) ⟨0, 0, _, Nat.le_refl _, Nat.le_refl _, c_Mo_share h x y z a b, fun v m1 hq => ?_⟩))
  rcases hq with ⟨rfl, hs, hF, hI⟩ | ⟨rfl, hs, ee⟩
  · refine And.intro (fun g => absurd g (by decide)) (fun _ => ?_)
    have S1 := hI.1
    refine And.intro (o0 S1) (And.intro (Nat.le_of_ble_eq_true rfl) (And.intro (Nat.le_of_ble_eq_true rfl) ⟨0, 0, _, Nat.le_refl _, Nat.le_refl _, c_Mo_solve hI, fun v m2 hq => ?_⟩))
    have hM : (rTold A (rShare A.1 (2 * (3 * x.toInt.toNat + y.toInt.toNat) + z.toInt.toNat) a.toInt.toNat b.toInt.toNat)).1.M ≤ 3 := (hI.2.1 0 (by decide)).2.2.1
    have hq2 := hq
    rcases hq with ⟨rfl, h1, h2, h3⟩ | ⟨j, hj, rfl, h1, h2, h3, h4⟩
    · refine And.intro (fun g => absurd g (by decide)) (fun _ => ?_)
      exact ⟨Nat.le_refl _, Nat.le_refl _, Or.inr rfl, Or.inl ⟨rfl, hs, hF.tr h2, m1, _, hq2⟩⟩
    · refine And.intro (fun g => absurd g (nI_pos (by omega))) (fun _ => ?_)
      exact ⟨Nat.le_refl _, Nat.le_refl _, Or.inr rfl, Or.inl ⟨rfl, hs, hF.tr h3, m1, _, hq2⟩⟩
  · refine And.intro (fun _ => ?_) (fun g => absurd rfl g)
    exact ⟨Nat.le_refl _, Nat.le_refl _, Or.inl rfl, Or.inr ⟨rfl, hs, ee⟩⟩
/-! The answers. -/
theorem wpt_le {R : RD} (h : ROK R) (p : Nat) (kd : Int32) (q : Nat) : wpt R p kd q ≤ 2 ^ 24 := by
  unfold wpt
  split
  · have h1 : ∀ o, ds_nS (fun k => wpT R p kd q o k) 3 ≤ 3 * 500000 := fun o => ds_nS_bd (fun k _ => by
      unfold wpT
      split
      · exact rYv_le h
      · exact Nat.zero_le _)
    have := ds_nS_bd (f := fun o => ds_nS (fun k => wpT R p kd q o k) 3) (c := 3 * 500000) (n := 3) (fun o _ => h1 o)
    omega
  · exact Nat.zero_le _
theorem sp22 {x : Nat} (h : x < 2 ^ 240) : x < bB ^ 22 := Nat.lt_trans h num_b.2.2.1
theorem sp24 {x : Nat} (h : x < 2 ^ 240) : x < ga_P prm 8 := Nat.lt_trans h prm_P
/-- an amount over the determinant -/
def amtA (R : RD) (w : Nat → Nat) (pt : Nat) : Int64 := lN (ppart (rAm R w) (rDT R) pt)
def routC (A : RSt) (x y z : Int32) : Prop := A.2.2.2.2.2.1 = true ∧ (0 ≤ x.toInt ∧ x.toInt < (A.2.1.P : Int)) ∧ isK A.1 y ∧ 0 ≤ z.toInt ∧ z.toInt ≤ 6
theorem c_Mo_out {m : jm_M} {rd : Nat → Nat} {A : RSt} {n : Nat} (h : MI m rd A n) (hn : n < 2 ^ 31) (hS : A.2.2.2.2.2.1 = true → STD A.2.1) (x y z : Int32) : jm_C l D ca n_Mo_out [.ref (rd 0), .int x, .int y, .int z] m 0 0 (fun v m' => FMa rd m m' ∧ MI m' rd A n ∧ ((routC A x y z ∧ v = some (.long (amtA A.2.1 (wpt A.2.1 x.toInt.toNat y) z.toInt.toNat))) ∨ (¬ routC A x y z ∧ v = some (.long (-1))))) := by
  refine jm_C_of (cd := cd_Mo_out) (ini := false) (by decide +kernel) ok_Mo_out (fun h => by cases h) (Nat.le_of_ble_eq_true rfl) ?_
  intro X hX
  have S := h.1
  have o0 : ∀ {m : jm_M}, MST m rd → jm_ok m (rd 0) 6 := fun S => S.ok (Or.inl (by decide))
  have k2 : mkin 2 := Or.inl (by decide)
  have k0 : mkin 0 := Or.inl (by decide)
  have k25 : mkin 25 := Or.inr (Or.inl (by decide))
  have hV1 : MV m rd 1 A.2.1 := (h.2.1 1 (by decide)).1
  have hR1 : ROK A.2.1 := (h.2.1 1 (by decide)).2
  have hP : A.2.1.P ≤ 3 := hR1.2.2.1
  have e14 : m.2.2.1 (rd 0) 14 = bI A.2.2.2.2.2.1 := h.2.2.2.2.2.1
  have eP : m.2.2.1 (rd 2) 1 = nI A.2.1.P := hV1.2.2.1
  have e6 : (nI 6).toInt = 6 := by decide
  have no : ¬ routC A x y z → X 39 [(0, .ref (rd 0)), (1, .int x), (2, .int y), (3, .int z)] [] m 0 0 := fun hn => by
    refine jm_run hX [] 5 ?_
    exact ⟨Nat.le_refl _, Nat.le_refl _, trivial, FM.rf, h, Or.inr ⟨hn, rfl⟩⟩
  refine jm_run hX [(39, [0, 1, 2, 3]), (43, [0, 1, 2, 3])] 60 ?_
  refine And.intro (o0 S) ?_
  refine And.intro (fun g => ?_) (fun g => ?_)
  · have g : m.2.2.1 (rd 0) 14 = 0 := g
    rw [e14, bI_eq0] at g
    exact no (fun q => by rw [q.1] at g; cases g)
  have g : ¬ m.2.2.1 (rd 0) 14 = 0 := g
  rw [e14, bI_eq0, Bool.not_eq_false] at g
  refine And.intro (fun g2 => ?_) (fun g2 => ?_)
  · rw [ilt0] at g2
    exact no (fun q => absurd q.2.1.1 (by omega))
  rw [ilt0] at g2
  refine And.intro (o0 S) ⟨some (rd 2), S.2.2 2 k2 (by decide), And.intro (S.ok k2) (And.intro (show vp_in (nI 1) (m.2.1 (rd 2)).2 from vin_of (S.len k2) (by decide) (by decide)) ?_)⟩
  refine And.intro (fun g3 => ?_) (fun g3 => ?_)
  · have g3 : m.2.2.1 (rd 2) 1 ≤ x := g3
    rw [eP, ileN (by omega)] at g3
    exact no (fun q => absurd q.2.1.2 (by omega))
  have g3 : ¬ m.2.2.1 (rd 2) 1 ≤ x := g3
  rw [eP, ileN (by omega)] at g3
  refine And.intro (o0 S) (And.intro (Nat.le_of_ble_eq_true rfl) (And.intro (Nat.le_of_ble_eq_true rfl) ⟨0, 0, _, Nat.le_refl _, Nat.le_refl _, c_Mo_isKind h y, fun v m' hq => ?_⟩))
  obtain ⟨ee, rfl⟩ := hq
  have ee := ee.symm
  subst ee
  by_cases hy : isK A.1 y
  · rw [if_pos hy]
    refine And.intro (fun g => absurd g (by decide)) (fun _ => ?_)
    refine And.intro (fun g4 => ?_) (fun g4 => ?_)
    · rw [ilt0] at g4
      exact no (fun q => absurd q.2.2.2.1 (by omega))
    rw [ilt0] at g4
    refine And.intro (fun g5 => ?_) (fun g5 => ?_)
    · have g5 : z ≤ nI 6 := g5
      rw [iNle (by decide)] at g5
      have hall : routC A x y z := ⟨g, ⟨by omega, by omega⟩, hy, by omega, by omega⟩
      have hSt := hS g
      have ex : x = nI x.toInt.toNat := i_of (by omega)
      have k43 : X 43 [(0, .ref (rd 0)), (1, .int x), (2, .int y), (3, .int z)] [] m 0 0 := by
        refine jm_run hX [] 60 ?_
        refine And.intro (o0 S) (And.intro (Nat.le_of_ble_eq_true rfl) (And.intro (Nat.le_of_ble_eq_true rfl) ⟨0, 0, _, Nat.le_refl _, Nat.le_refl _, c_Mo_prepare h hn (f := 1) (by decide) hSt, fun v m1 hq => ?_⟩))
        obtain ⟨rfl, hFa1, hI1, hL1, hC1, ⟨V1, hb1, hv1⟩, hw1⟩ := hq
        have hL1 : LAY m1 rd A.2.1 := hL1
        have hC1 : CCR m1 rd A.2.1 := hC1
        have hv1 : V1 1 = rDT A.2.1 := hv1
        have S1 := hI1.1
        have hV11 : MV m1 rd 1 A.2.1 := (hI1.2.1 1 (by decide)).1
        have kw := c_Mo_weighPort (l := l) (D := D) (ca := ca) (p := x.toInt.toNat) (kd := y) S1 hV11 hL1 hw1 (by decide) hR1
        rw [← ex] at kw
        refine And.intro (o0 S1) (And.intro (Nat.le_of_ble_eq_true rfl) (And.intro (Nat.le_of_ble_eq_true rfl) ⟨0, 0, _, Nat.le_refl _, Nat.le_refl _, kw, fun v m2 hq => ?_⟩))
        obtain ⟨rfl, hF2, hw2⟩ := hq
        have S2 := hF2.S S1
        have g25 : m2.2.2.2.1 (rd 25) = m1.2.2.2.1 (rd 25) := (hF2.at S1 k25 (by decide)).2
        have hI2 : MI m2 rd A n := hI1.mv hF2 (fun k w => by have : k = 30 := w; omega) (fun j _ _ => by rw [(hF2.at S1 k0 (by decide)).1]) ⟨_, by rw [g25]; exact hb1⟩
        have hw2 : lrow (m2.2.2.2.1 (rd 30)) (wpt A.2.1 x.toInt.toNat y) 9 := fun i hi => by rw [hw2 i hi]; dsimp only; rw [Nat.zero_add]
        have hC2 : CCR m2 rd A.2.1 := hC1.mv (hF2.at S1 (Or.inr (Or.inl (by decide))) (by decide)).2 (hF2.at S1 (Or.inr (Or.inl (by decide))) (by decide)).2
        have hfd : ∀ i, i < 9 → m2.2.2.1 (rd 10) (9 * 1 + i) = nI (A.2.1.F i) ∧ A.2.1.F i ≤ 1000000 := fun i hi => ⟨((hI2.2.1 1 (by decide)).1.2.2.2.2.2.2 i hi).2.2.2, hR1.2.2.2.2.2.2.2.2.2 i hi⟩
        have kg := c_Mo_gatherAmount (l := l) (D := D) (ca := ca) (f := 1) (n := 0) (Xv := rAm A.2.1 (wpt A.2.1 x.toInt.toNat y)) S2 hI2.2.2.1 hC2 (by rw [g25]; exact hb1) hw2 (fun j _ => Nat.lt_of_le_of_lt (wpt_le hR1 _ _ _) (by decide)) (by decide) hfd (by decide) (hSt.am _) (sp24 (hSt.alt (fun q _ => wpt_le hR1 _ _ _)))
        refine And.intro (o0 S2) (And.intro (Nat.le_of_ble_eq_true rfl) (And.intro (Nat.le_of_ble_eq_true rfl) ⟨0, 0, _, Nat.le_refl _, Nat.le_refl _, kg, fun v m3 hq => ?_⟩))
        obtain ⟨rfl, hF3, hb3⟩ := hq
        have S3 := hF3.S S2
        have hI3 : MI m3 rd A n := hI2.mv hF3 (fun k w => by omega) (fun j _ _ => by rw [(hF3.at S2 k0 (by decide)).1]) ⟨_, hb3⟩
        have v1 : va_up V1 0 (rAm A.2.1 (wpt A.2.1 x.toInt.toNat y)) 1 = rDT A.2.1 := by rw [va_up_ne _ _ (by decide)]; exact hv1
        have v0 : va_up V1 0 (rAm A.2.1 (wpt A.2.1 x.toInt.toNat y)) 0 = rAm A.2.1 (wpt A.2.1 x.toInt.toNat y) := va_up_self _ _ _
        have kp := c_Mo_partOf (l := l) (D := D) (ca := ca) (bl := false) S3 hb3 (by rw [v1]; exact (hSt.d (rfd A.2.1)).2) (by rw [v1]; exact sp22 hSt.dlt) z ⟨by omega, by omega⟩
        refine And.intro (o0 S3) (And.intro (Nat.le_of_ble_eq_true rfl) (And.intro (Nat.le_of_ble_eq_true rfl) ⟨0, 0, _, Nat.le_refl _, Nat.le_refl _, kp, fun v m4 hq => ?_⟩))
        obtain ⟨rfl, hF4, hIO, hb4⟩ := hq
        have hI4 : MI m4 rd A n := hI3.mv hF4 (fun k w => by omega) (fun j q1 q2 => hIO j q1 q2) hb4
        refine ⟨Nat.le_refl _, Nat.le_refl _, trivial, ((hFa1.tr hF2.a).tr hF3.a).tr hF4.a, hI4, Or.inl ⟨hall, ?_⟩⟩
        rw [v0, v1]; rfl
      exact k43
    · have g5 : ¬ z ≤ nI 6 := g5
      rw [iNle (by decide)] at g5
      exact no (fun q => absurd q.2.2.2.2 (by omega))
  · rw [if_neg hy]
    refine And.intro (fun _ => ?_) (fun g => absurd rfl g)
    exact no (fun q => hy q.2.2.1)
end RB27
