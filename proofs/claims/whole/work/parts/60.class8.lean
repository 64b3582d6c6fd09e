section SH8
variable {l : Launch} {D : va_G} {ca : Nat → ClassId}
/-- change: told and solved -/
theorem c_Sh_change {m : jm_M} {ad : Nat → Nat} {c : CSt} (h : CI m ad c) (hS : shSum c.1) (x y z : Int32) (a b : Int64) (hB : shT c.1 x y z a b → LB (dShare c.1 x.toInt.toNat y.toInt.toNat z.toInt.toNat (unS a b))) (hFG : shT c.1 x y z a b → stands (dShare c.1 x.toInt.toNat y.toInt.toNat z.toInt.toNat (unS a b)) → ∀ F, RA (dShare c.1 x.toInt.toNat y.toInt.toNat z.toInt.toNat (unS a b)) F (c.1.1.2.1 * c.1.1.1) → FG (c.1.1.2.1 * c.1.1.1) F) :
    jm_C l D ca n_Sh_change [.ref (ad 0), .int x, .int y, .int z, .long a, .long b] m 0 0 (fun v m' => (v = some (.int 1) ∧ shT c.1 x y z a b ∧ ∃ m1 v1, FRa ad m m1 ∧ slvQ ad m1 (dShare c.1 x.toInt.toNat y.toInt.toNat z.toInt.toNat (unS a b), c.2.1, c.2.2.1, c.2.2.2.1, false, c.2.2.2.2.2.1, c.2.2.2.2.2.2) v1 m') ∨ (v = some (.int 0) ∧ ¬ shT c.1 x y z a b ∧ m' = m)) := by
  refine jm_C_of (cd := cd_Sh_change) (ini := false) (by decide +kernel) ok_Sh_change (fun h => by cases h) (Nat.le_of_ble_eq_true rfl) ?_
  intro X hX
  have o0 : ∀ {m' : jm_M}, SST m' ad → jm_ok m' (ad 0) 5 := fun S => S.ok 0 (Or.inl (by decide))
  refine jm_run hX [] 20 ?_
  refine And.intro (o0 h.1) (And.intro (Nat.le_of_ble_eq_true rfl) (And.intro (Nat.le_of_ble_eq_true rfl) ⟨0, 0, _, Nat.le_refl _, Nat.le_refl _, c_Sh_tellShare h hS x y z a b, fun v m2 hq => ?_⟩))
  rcases hq with ⟨rfl, q1, q2, q3⟩ | ⟨rfl, q1, q2⟩
  · refine And.intro (fun g => absurd g (by decide)) (fun _ => ?_)
    refine And.intro (o0 q3.1) (And.intro (Nat.le_of_ble_eq_true rfl) (And.intro (Nat.le_of_ble_eq_true rfl) ⟨0, 0, _, Nat.le_refl _, Nat.le_refl _, c_Sh_solveAll q3 (hB q1) (hFG q1), fun v m3 hq => ?_⟩))
    rcases hq with ⟨rfl, q⟩ | ⟨j, hj, rfl, q⟩
    · refine And.intro rfl ?_
      exact ⟨Nat.le_refl _, Nat.le_refl _, Or.inr rfl, Or.inl ⟨rfl, q1, m2, _, q2, Or.inl ⟨rfl, q⟩⟩⟩
    · refine And.intro rfl ?_
      exact ⟨Nat.le_refl _, Nat.le_refl _, Or.inr rfl, Or.inl ⟨rfl, q1, m2, _, q2, Or.inr ⟨j, hj, rfl, q⟩⟩⟩
  · refine And.intro (fun _ => ?_) (fun g => absurd rfl g)
    exact ⟨Nat.le_refl _, Nat.le_refl _, Or.inl rfl, Or.inr ⟨rfl, q1, q2⟩⟩
/-- what out answers -/
def outQ (c : CSt) (x y z : Int32) (r : Int64) : Prop :=
  if c.2.2.2.2.2.1 = true ∧ (0 ≤ x.toInt ∧ x.toInt < (c.2.2.2.2.2.2.1.2.2 : Int)) ∧ (0 ≤ y.toInt ∧ y.toInt < (c.1.1.1 : Int)) ∧ 0 ≤ z.toInt ∧ z.toInt ≤ 6 then
    ∃ F V, svN c.2.2.2.2.2.2 F V ∧ r = lN (ppart (V (119 + (x.toInt.toNat * c.1.1.1 + y.toInt.toNat))) (V 118) z.toInt.toNat)
  else r = -1
theorem c_Sh_out {m : jm_M} {ad : Nat → Nat} {c : CSt} (h : CI m ad c) (x y z : Int32) : jm_C l D ca n_Sh_out [.ref (ad 0), .int x, .int y, .int z] m 0 0 (fun v m' => FRa ad m m' ∧ CI m' ad c ∧ ∃ r, v = some (.long r) ∧ outQ c x y z r) := by
  refine jm_C_of (cd := cd_Sh_out) (ini := false) (by decide +kernel) ok_Sh_out (fun h => by cases h) (Nat.le_of_ble_eq_true rfl) ?_
  intro X hX
  have S := h.1
  have L := h.2.1
  have hO := h.2.2.1
  have hK := hO.1
  obtain ⟨V, hW, hKn⟩ := h.2.2.2.2.2.2.2.2.2
  have h3 : m.2.2.1 (ad 3) 0 = bI c.2.2.2.2.2.1 := h.2.2.2.2.2.2.2.2.1
  have o0 : jm_ok m (ad 0) 5 := S.ok 0 (Or.inl (by decide))
  have o1 : jm_ok m (ad 1) 2 := S.ok 1 (Or.inl (by decide))
  have o2 : jm_ok m (ad 2) 1 := S.ok 2 (Or.inl (by decide))
  have o3 : jm_ok m (ad 3) 3 := S.ok 3 (Or.inl (by decide))
  have o4 : jm_ok m (ad 4) 0 := S.ok 4 (Or.inl (by decide))
  have r1 : m.2.2.2.2 (ad 0) 0 = some (ad 1) := S.2.2.1 (0, 0, 1) (by decide)
  have r2 : m.2.2.2.2 (ad 0) 1 = some (ad 2) := S.2.2.1 (0, 1, 2) (by decide)
  have r3 : m.2.2.2.2 (ad 0) 2 = some (ad 3) := S.2.2.1 (0, 2, 3) (by decide)
  have r4 : m.2.2.2.2 (ad 2) 0 = some (ad 4) := S.2.2.1 (2, 0, 4) (by decide)
  have ra : m.2.2.2.2 (ad 3) 4 = some (ad 41) := S.2.2.1 (3, 4, 41) (by decide)
  have o41 : jm_ok m (ad 41) 53 := S.ok 41 (Or.inl (by decide))
  have l41 : (m.2.1 (ad 41)).2 = 9 := S.len 41 (Or.inl (by decide))
  have rsb : m.2.2.2.2 (ad 3) 3 = some (ad 336) := S.2.2.1 (3, 3, 336) (by decide)
  have hP2 : c.2.2.2.2.2.1 = true → c.2.2.2.2.2.2.1.2.2 < 2 ^ 31 := fun k => by
    have := (hKn k).2.2.2.1.2.2.1
    omega
  have none1 : ∀ {p : Prop}, ¬ p → (p ↔ (c.2.2.2.2.2.1 = true ∧ (0 ≤ x.toInt ∧ x.toInt < (c.2.2.2.2.2.2.1.2.2 : Int)) ∧ (0 ≤ y.toInt ∧ y.toInt < (c.1.1.1 : Int)) ∧ 0 ≤ z.toInt ∧ z.toInt ≤ 6)) → outQ c x y z (-1) := fun hp hi => by
    unfold outQ
    rw [if_neg (fun q => hp (hi.mpr q))]
  have hno : ¬ (c.2.2.2.2.2.1 = true ∧ (0 ≤ x.toInt ∧ x.toInt < (c.2.2.2.2.2.2.1.2.2 : Int)) ∧ (0 ≤ y.toInt ∧ y.toInt < (c.1.1.1 : Int)) ∧ 0 ≤ z.toInt ∧ z.toInt ≤ 6) → outQ c x y z (-1) := fun hp => none1 hp Iff.rfl
  have khp : jm_C l D ca n_So_hasPort [.ref (ad 3), .int x] m 0 0 (fun v m' => m' = m ∧ v = some (.int (if c.2.2.2.2.2.1 = true ∧ 0 ≤ x.toInt ∧ x.toInt < (c.2.2.2.2.2.2.1.2.2 : Int) then 1 else 0))) := by
    by_cases hk : c.2.2.2.2.2.1 = true
    · exact c_So_hasPort S h3 (fun k => (hKn k).2.1) (hP2 hk) x
    · have e1 : (if c.2.2.2.2.2.1 = true ∧ 0 ≤ x.toInt ∧ x.toInt < (c.2.2.2.2.2.2.1.2.2 : Int) then (1 : Int32) else 0) = if c.2.2.2.2.2.1 = true ∧ 0 ≤ x.toInt ∧ x.toInt < ((0 : Nat) : Int) then 1 else 0 := by
        rw [if_neg (fun q => hk q.1), if_neg (fun q => hk q.1)]
      rw [e1]
      exact c_So_hasPort S h3 (fun k => absurd k hk) (by decide) x
  refine jm_run hX [(33, [0, 1, 2, 3])] 40 ?_
  refine And.intro o0 ⟨some (ad 3), r3, ?_⟩
  refine And.intro o3 (And.intro (Nat.le_of_ble_eq_true rfl) (And.intro (Nat.le_of_ble_eq_true rfl) ⟨0, 0, _, Nat.le_refl _, Nat.le_refl _, khp, fun v m' hq => ?_⟩))
  obtain ⟨ee, rfl⟩ := hq
  have ee := ee.symm
  subst ee
  by_cases q1 : c.2.2.2.2.2.1 = true ∧ 0 ≤ x.toInt ∧ x.toInt < (c.2.2.2.2.2.2.1.2.2 : Int)
  · rw [if_pos q1]
    refine And.intro (fun g => absurd g (by decide)) (fun _ => ?_)
    refine And.intro o0 ⟨some (ad 1), r1, ?_⟩
    refine And.intro o1 (And.intro (Nat.le_of_ble_eq_true rfl) (And.intro (Nat.le_of_ble_eq_true rfl) ⟨0, 0, _, Nat.le_refl _, Nat.le_refl _, c_Ln_hasKind S L (by omega) y, fun v m' hq => ?_⟩))
    obtain ⟨ee, rfl⟩ := hq
    have ee := ee.symm
    subst ee
    by_cases q2 : 0 ≤ y.toInt ∧ y.toInt < (c.1.1.1 : Int)
    · rw [if_pos q2]
      refine And.intro (fun g => absurd g (by decide)) (fun _ => ?_)
      refine ⟨Nat.le_of_ble_eq_true rfl, Nat.le_of_ble_eq_true rfl, 0, 0, _, Nat.le_refl _, Nat.le_refl _, c_Sh_isPart z, fun v m' hq => ?_⟩
      obtain ⟨ee, rfl⟩ := hq
      have ee := ee.symm
      subst ee
      by_cases q3 : 0 ≤ z.toInt ∧ z.toInt ≤ 6
      · rw [if_pos q3]
        refine And.intro (fun g => absurd g (by decide)) (fun _ => ?_)
        obtain ⟨k1, k2, k3, k4, F, hF⟩ := hKn q1.1
        have sz := hF.sz k4
        have ex : x = nI x.toInt.toNat := i_of q1.2.1
        have ey : y = nI y.toInt.toNat := i_of q2.1
        have ez : z = nI z.toInt.toNat := i_of q3.1
        have hp : x.toInt.toNat < c.2.2.2.2.2.2.1.2.2 := by omega
        have hk : y.toInt.toNat < c.2.2.2.2.2.2.1.1 := by omega
        have hrow := row_lt k4.1.2 k4.2.2.1 hp hk
        have s1 := sz.2.1 _ _ hp hk
        rw [k3] at hrow s1
        have key0 := c_Ln_row (l := l) (D := D) (ca := ca) (j := x.toInt.toNat) (k := y.toInt.toNat) S L
        rw [← ex, ← ey] at key0
        have hans : outQ c x y z (lN (ppart (V (119 + (x.toInt.toNat * c.1.1.1 + y.toInt.toNat))) (V 118) z.toInt.toNat)) := by
          unfold outQ
          rw [if_pos ⟨q1.1, q1.2, q2, q3⟩]
          exact ⟨F, V, hF, rfl⟩
        generalize hrr : x.toInt.toNat * c.1.1.1 + y.toInt.toNat = rr at *
        have key1 := c_Dv_partOf (l := l) (D := D) (ca := ca) (ia := 119 + rr) (iu := 118) (pt := z.toInt.toNat) S hW (by omega) (by decide) (by omega) (by decide) (Nat.lt_of_le_of_lt s1 (by decide)) (Nat.lt_of_le_of_lt sz.1.2 (by decide)) sz.1.1 (by omega)
        rw [← ez] at key1
        have kk : X 33 [(0, .ref (ad 0)), (1, .int x), (2, .int y), (3, .int z)] [] m 0 0 := by
          refine jm_run hX [] 40 ?_
          refine And.intro o0 ⟨some (ad 3), r3, And.intro o3 ⟨some (ad 41), ra, And.intro o0 ⟨some (ad 1), r1, ?_⟩⟩⟩
          refine And.intro o1 (And.intro (Nat.le_of_ble_eq_true rfl) (And.intro (Nat.le_of_ble_eq_true rfl) ⟨0, 0, _, Nat.le_refl _, Nat.le_refl _, key0, fun v m' hq => ?_⟩))
          obtain ⟨ee, rfl⟩ := hq
          have ee := ee.symm
          subst ee
          refine And.intro o41 (And.intro (vin_of l41 hrow (by decide)) ⟨some (ad (100 + 2 * (119 + rr))), ?_, ?_⟩)
          · rw [nI_c (by omega), ← e41]; exact S.2.2.2.2.2.2.2.2.1 rr hrow
          refine And.intro o0 ⟨some (ad 2), r2, And.intro o2 ⟨some (ad 4), r4, And.intro o0 ⟨some (ad 3), r3, And.intro o3 ⟨some (ad 336), rsb, ?_⟩⟩⟩⟩
          refine And.intro o4 (And.intro (Nat.le_of_ble_eq_true rfl) (And.intro (Nat.le_of_ble_eq_true rfl) ⟨0, 0, _, Nat.le_refl _, Nat.le_refl _, key1, fun v m1 hq => ?_⟩))
          obtain ⟨rfl, hR1, V1, hW1, hs1⟩ := hq
          have hRs : FRs ad (fun k => 100 ≤ k) m m1 := FRs.W (fun k h _ => h) hR1
          refine ⟨Nat.le_refl _, Nat.le_refl _, trivial, hRs.a, ?_, _, rfl, hans⟩
          obtain ⟨c1, c2, c3, c4, c5, c6, c7⟩ := h.c0.mv hRs (fun k q => by omega)
          refine ⟨c1, c2, c3, c4, c5, c6, c7, ?_, ?_, V1, hW1, fun hk => ?_⟩
          · rw [hR1.I S (by decide)]; exact h.2.2.2.2.2.2.2.1
          · rw [hR1.I S (by decide)]; exact h3
          · have e3 := hR1.I S (k := 3) (by decide)
            refine ⟨by rw [e3]; exact k1, by rw [e3]; exact k2, k3, k4, F, hF.1, hF.2.1, ?_, fun p k hp hk => ?_, fun j hj => ?_⟩
            · rw [hs1 118 (by decide) (by decide) (by decide) (by decide) (by decide)]; exact hF.2.2.1
            · have := row_lt k4.1.2 k4.2.2.1 hp hk
              rw [hs1 _ (by omega) (by omega) (by omega) (by omega) (by omega)]; exact hF.2.2.2.1 p k hp hk
            · have := k4.2.1
              rw [hs1 _ (by omega) (by omega) (by omega) (by omega) (by omega)]; exact hF.2.2.2.2 j hj
        exact kk
      · rw [if_neg q3]
        refine And.intro (fun _ => ?_) (fun g => absurd rfl g)
        exact ⟨Nat.le_refl _, Nat.le_refl _, trivial, FRs.rf, h, -1, rfl, hno (fun q => q3 q.2.2.2)⟩
    · rw [if_neg q2]
      refine And.intro (fun _ => ?_) (fun g => absurd rfl g)
      exact ⟨Nat.le_refl _, Nat.le_refl _, trivial, FRs.rf, h, -1, rfl, hno (fun q => q2 q.2.2.1)⟩
  · rw [if_neg q1]
    refine And.intro (fun _ => ?_) (fun g => absurd rfl g)
    exact ⟨Nat.le_refl _, Nat.le_refl _, trivial, FRs.rf, h, -1, rfl, hno (fun q => q1 ⟨q.1, q.2.1⟩)⟩
end SH8
