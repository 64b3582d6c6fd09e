/-- only whole numbers changed, and none of the solution's: the state stays -/
theorem CI.w {m m1 : jm_M} {ad V V1 : Nat → Nat} {c : CSt} (h : CI m ad c) (hR1 : FRW ad m m1) (hKn : c.2.2.2.2.2.1 = true → SV m ad c.1 c.2.2.2.2.2.2 V) (hW1 : WV m1 ad V1) (hs1 : ∀ i, 118 ≤ i → i < 131 → V1 i = V i) : CI m1 ad c ∧ (c.2.2.2.2.2.1 = true → SV m1 ad c.1 c.2.2.2.2.2.2 V1) := by
  have S := h.1
  have hRs : FRs ad (fun k => 100 ≤ k) m m1 := FRs.W (fun k h _ => h) hR1
  obtain ⟨c1, c2, c3, c4, c5, c6, c7⟩ := h.c0.mv hRs (fun k q => by omega)
  have key : c.2.2.2.2.2.1 = true → SV m1 ad c.1 c.2.2.2.2.2.2 V1 := fun hk => by
    obtain ⟨k1, k2, k3, k4, F, hF⟩ := hKn hk
    have e3 := hR1.I S (k := 3) (by decide)
    refine ⟨by rw [e3]; exact k1, by rw [e3]; exact k2, k3, k4, F, hF.1, hF.2.1, ?_, fun p k hp hk => ?_, fun j hj => ?_⟩
    · rw [hs1 118 (by decide) (by decide)]; exact hF.2.2.1
    · have := row_lt k4.1.2 k4.2.2.1 hp hk
      rw [hs1 _ (by omega) (by omega)]; exact hF.2.2.2.1 p k hp hk
    · have := k4.2.1
      rw [hs1 _ (by omega) (by omega)]; exact hF.2.2.2.2 j hj
  refine ⟨⟨c1, c2, c3, c4, c5, c6, c7, ?_, ?_, V1, hW1, key⟩, key⟩
  · rw [hR1.I S (by decide)]; exact h.2.2.2.2.2.2.2.1
  · rw [hR1.I S (by decide)]; exact h.2.2.2.2.2.2.2.2.1
section SH9
variable {l : Launch} {D : va_G} {ca : Nat → ClassId}
theorem k_hm {m : jm_M} {ad V : Nat → Nat} {c : CSt} (h : CI m ad c) (hKn : c.2.2.2.2.2.1 = true → SV m ad c.1 c.2.2.2.2.2.2 V) (x : Int32) : jm_C l D ca n_So_hasMachine [.ref (ad 3), .int x] m 0 0 (fun v m' => m' = m ∧ v = some (.int (if c.2.2.2.2.2.1 = true ∧ 0 ≤ x.toInt ∧ x.toInt < (c.2.2.2.2.2.2.1.2.1 : Int) then 1 else 0))) := by
  have h3 : m.2.2.1 (ad 3) 0 = bI c.2.2.2.2.2.1 := h.2.2.2.2.2.2.2.2.1
  by_cases hk : c.2.2.2.2.2.1 = true
  · have := (hKn hk).2.2.2.1.2.1
    exact c_So_hasMachine h.1 h3 (fun k => (hKn k).1) (by omega) x
  · have e1 : (if c.2.2.2.2.2.1 = true ∧ 0 ≤ x.toInt ∧ x.toInt < (c.2.2.2.2.2.2.1.2.1 : Int) then (1 : Int32) else 0) = if c.2.2.2.2.2.1 = true ∧ 0 ≤ x.toInt ∧ x.toInt < ((0 : Nat) : Int) then 1 else 0 := by
      rw [if_neg (fun q => hk q.1), if_neg (fun q => hk q.1)]
    rw [e1]
    exact c_So_hasMachine h.1 h3 (fun k => absurd k hk) (by decide) x
theorem k_hp {m : jm_M} {ad V : Nat → Nat} {c : CSt} (h : CI m ad c) (hKn : c.2.2.2.2.2.1 = true → SV m ad c.1 c.2.2.2.2.2.2 V) (x : Int32) : jm_C l D ca n_So_hasPort [.ref (ad 3), .int x] m 0 0 (fun v m' => m' = m ∧ v = some (.int (if c.2.2.2.2.2.1 = true ∧ 0 ≤ x.toInt ∧ x.toInt < (c.2.2.2.2.2.2.1.2.2 : Int) then 1 else 0))) := by
  have h3 : m.2.2.1 (ad 3) 0 = bI c.2.2.2.2.2.1 := h.2.2.2.2.2.2.2.2.1
  by_cases hk : c.2.2.2.2.2.1 = true
  · have := (hKn hk).2.2.2.1.2.2.1
    exact c_So_hasPort h.1 h3 (fun k => (hKn k).2.1) (by omega) x
  · have e1 : (if c.2.2.2.2.2.1 = true ∧ 0 ≤ x.toInt ∧ x.toInt < (c.2.2.2.2.2.2.1.2.2 : Int) then (1 : Int32) else 0) = if c.2.2.2.2.2.1 = true ∧ 0 ≤ x.toInt ∧ x.toInt < ((0 : Nat) : Int) then 1 else 0 := by
      rw [if_neg (fun q => hk q.1), if_neg (fun q => hk q.1)]
    rw [e1]
    exact c_So_hasPort h.1 h3 (fun k => absurd k hk) (by decide) x
/-- what load answers -/
def loadQ (c : CSt) (x z : Int32) (r : Int64) : Prop :=
  if c.2.2.2.2.2.1 = true ∧ (0 ≤ x.toInt ∧ x.toInt < (c.2.2.2.2.2.2.1.2.1 : Int)) ∧ 0 ≤ z.toInt ∧ z.toInt ≤ 6 then
    ∃ F V, svN c.2.2.2.2.2.2 F V ∧ r = lN (ppart (V (128 + x.toInt.toNat)) (V 118) z.toInt.toNat)
  else r = -1
theorem c_Sh_load {m : jm_M} {ad : Nat → Nat} {c : CSt} (h : CI m ad c) (x z : Int32) : jm_C l D ca n_Sh_load [.ref (ad 0), .int x, .int z] m 0 0 (fun v m' => FRa ad m m' ∧ CI m' ad c ∧ ∃ r, v = some (.long r) ∧ loadQ c x z r) := by
  refine jm_C_of (cd := cd_Sh_load) (ini := false) (by decide +kernel) ok_Sh_load (fun h => by cases h) (Nat.le_of_ble_eq_true rfl) ?_
  intro X hX
  have S := h.1
  obtain ⟨V, hW, hKn⟩ := h.2.2.2.2.2.2.2.2.2
  have o0 : jm_ok m (ad 0) 5 := S.ok 0 (Or.inl (by decide))
  have o2 : jm_ok m (ad 2) 1 := S.ok 2 (Or.inl (by decide))
  have o3 : jm_ok m (ad 3) 3 := S.ok 3 (Or.inl (by decide))
  have o4 : jm_ok m (ad 4) 0 := S.ok 4 (Or.inl (by decide))
  have r2 : m.2.2.2.2 (ad 0) 1 = some (ad 2) := S.2.2.1 (0, 1, 2) (by decide)
  have r3 : m.2.2.2.2 (ad 0) 2 = some (ad 3) := S.2.2.1 (0, 2, 3) (by decide)
  have r4 : m.2.2.2.2 (ad 2) 0 = some (ad 4) := S.2.2.1 (2, 0, 4) (by decide)
  have ra : m.2.2.2.2 (ad 3) 5 = some (ad 42) := S.2.2.1 (3, 5, 42) (by decide)
  have o42 : jm_ok m (ad 42) 53 := S.ok 42 (Or.inl (by decide))
  have l42 : (m.2.1 (ad 42)).2 = 3 := S.len 42 (Or.inl (by decide))
  have rsb : m.2.2.2.2 (ad 3) 3 = some (ad 336) := S.2.2.1 (3, 3, 336) (by decide)
  have hno : ¬ (c.2.2.2.2.2.1 = true ∧ (0 ≤ x.toInt ∧ x.toInt < (c.2.2.2.2.2.2.1.2.1 : Int)) ∧ 0 ≤ z.toInt ∧ z.toInt ≤ 6) → loadQ c x z (-1) := fun hp => by
    unfold loadQ
    rw [if_neg hp]
  refine jm_run hX [(22, [0, 1, 2])] 40 ?_
  refine And.intro o0 ⟨some (ad 3), r3, ?_⟩
  refine And.intro o3 (And.intro (Nat.le_of_ble_eq_true rfl) (And.intro (Nat.le_of_ble_eq_true rfl) ⟨0, 0, _, Nat.le_refl _, Nat.le_refl _, k_hm h hKn x, fun v m' hq => ?_⟩))
  obtain ⟨ee, rfl⟩ := hq
  have ee := ee.symm
  subst ee
  by_cases q1 : c.2.2.2.2.2.1 = true ∧ 0 ≤ x.toInt ∧ x.toInt < (c.2.2.2.2.2.2.1.2.1 : Int)
  · rw [if_pos q1]
    refine And.intro (fun g => absurd g (by decide)) (fun _ => ?_)
    refine ⟨Nat.le_of_ble_eq_true rfl, Nat.le_of_ble_eq_true rfl, 0, 0, _, Nat.le_refl _, Nat.le_refl _, c_Sh_isPart z, fun v m' hq => ?_⟩
    obtain ⟨ee, rfl⟩ := hq
    have ee := ee.symm
    subst ee
    by_cases q3 : 0 ≤ z.toInt ∧ z.toInt ≤ 6
    · rw [if_pos q3]
      refine And.intro (fun g => absurd g (by decide)) (fun _ => ?_)
      obtain ⟨k1, k2, k3, k4, F, hF⟩ := hKn q1.1
      have sz := hF.sz k4
      have ex : x = nI x.toInt.toNat := i_of q1.2.1
      have ez : z = nI z.toInt.toNat := i_of q3.1
      have hp : x.toInt.toNat < c.2.2.2.2.2.2.1.2.1 := by omega
      have hM := k4.2.1
      have s1 := sz.2.2 _ hp
      have hans : loadQ c x z (lN (ppart (V (128 + x.toInt.toNat)) (V 118) z.toInt.toNat)) := by
        unfold loadQ
        rw [if_pos ⟨q1.1, q1.2, q3⟩]
        exact ⟨F, V, hF, rfl⟩
      have key1 := c_Dv_partOf (l := l) (D := D) (ca := ca) (ia := 128 + x.toInt.toNat) (iu := 118) (pt := z.toInt.toNat) S hW (by omega) (by decide) (by omega) (by decide) (Nat.lt_of_le_of_lt s1 (by decide)) (Nat.lt_of_le_of_lt sz.1.2 (by decide)) sz.1.1 (by omega)
      rw [← ez] at key1
      have kk : X 22 [(0, .ref (ad 0)), (1, .int x), (2, .int z)] [] m 0 0 := by
        refine jm_run hX [] 40 ?_
        refine And.intro o0 ⟨some (ad 2), r2, And.intro o2 ⟨some (ad 4), r4, And.intro o0 ⟨some (ad 3), r3, And.intro o3 ⟨some (ad 42), ra, ?_⟩⟩⟩⟩
        refine And.intro o42 (And.intro ?_ ⟨some (ad (100 + 2 * (128 + x.toInt.toNat))), ?_, ?_⟩)
        · rw [ex]; exact vin_of l42 (by omega) (by decide)
        · show m.2.2.2.2 (ad 42) x.toNatClampNeg = _
          rw [show x.toNatClampNeg = x.toInt.toNat from by rw [ex]; exact (nI_c (by omega)).trans (congrArg Int.toNat (congrArg Int32.toInt ex)), ← e42]
          exact S.2.2.2.2.2.2.2.2.2 x.toInt.toNat (by omega)
        refine And.intro o0 ⟨some (ad 3), r3, And.intro o3 ⟨some (ad 336), rsb, ?_⟩⟩
        refine And.intro o4 (And.intro (Nat.le_of_ble_eq_true rfl) (And.intro (Nat.le_of_ble_eq_true rfl) ⟨0, 0, _, Nat.le_refl _, Nat.le_refl _, key1, fun v m1 hq => ?_⟩))
        obtain ⟨rfl, hR1, V1, hW1, hs1⟩ := hq
        have hRs : FRs ad (fun k => 100 ≤ k) m m1 := FRs.W (fun k h _ => h) hR1
        exact ⟨Nat.le_refl _, Nat.le_refl _, trivial, hRs.a, (h.w hR1 hKn hW1 (fun i h1 h2 => hs1 i (by omega) (by omega) (by omega) (by omega) (by omega))).1, _, rfl, hans⟩
      exact kk
    · rw [if_neg q3]
      refine And.intro (fun _ => ?_) (fun g => absurd rfl g)
      exact ⟨Nat.le_refl _, Nat.le_refl _, trivial, FRs.rf, h, -1, rfl, hno (fun q => q3 q.2.2)⟩
  · rw [if_neg q1]
    refine And.intro (fun _ => ?_) (fun g => absurd rfl g)
    exact ⟨Nat.le_refl _, Nat.le_refl _, trivial, FRs.rf, h, -1, rfl, hno (fun q => q1 ⟨q.1, q.2.1⟩)⟩
/-- a machine out of its span -/
def outB (c : CSt) (V : Nat → Nat) (j : Nat) : Bool := c.2.2.2.2.2.1 && (decide (j < c.2.2.2.2.2.2.1.2.1) && (c.2.1 j && (decide (V (128 + j) < c.2.2.1 j * V 118) || decide (c.2.2.2.1 j * V 118 < V (128 + j)))))
/-- spans as they can be told -/
def spOK (c : CSt) : Prop := ∀ i, i < 3 → c.2.2.1 i ≤ 1000000000 ∧ c.2.2.2.1 i ≤ 1000000000
theorem cmp_le {X Y : Nat} : cmpI X Y ≤ 0 ↔ ¬ Y < X := by
  unfold cmpI
  by_cases h : X < Y
  · rw [if_pos h]; exact ⟨fun _ => by omega, fun _ => by decide⟩
  · rw [if_neg h]
    by_cases e : X = Y
    · rw [if_pos e]; exact ⟨fun _ => by omega, fun _ => by decide⟩
    · rw [if_neg e]; exact ⟨fun q => absurd q (by decide), fun q => absurd (by omega) q⟩
theorem c_Sh_isOutsideSpan {m : jm_M} {ad V : Nat → Nat} {c : CSt} {j : Nat} (h : CI m ad c) (hW : WV m ad V) (hKn : c.2.2.2.2.2.1 = true → SV m ad c.1 c.2.2.2.2.2.2 V) (hSp : spOK c) (hj : j < 3) : jm_C l D ca n_Sh_isOutsideSpan [.ref (ad 0), .int (nI j)] m 0 0 (fun v m' => v = some (.int (bI (outB c V j))) ∧ FRW ad m m' ∧ ∃ V', WV m' ad V' ∧ ∀ i, i ≠ 131 → V' i = V i) := by
  refine jm_C_of (cd := cd_Sh_isOutsideSpan) (ini := false) (by decide +kernel) ok_Sh_isOutsideSpan (fun h => by cases h) (Nat.le_of_ble_eq_true rfl) ?_
  intro X hX
  have S := h.1
  have o0 : ∀ {m' : jm_M}, SST m' ad → jm_ok m' (ad 0) 5 := fun S => S.ok 0 (Or.inl (by decide))
  have o1 : ∀ {m' : jm_M}, SST m' ad → jm_ok m' (ad 1) 2 := fun S => S.ok 1 (Or.inl (by decide))
  have o3 : ∀ {m' : jm_M}, SST m' ad → jm_ok m' (ad 3) 3 := fun S => S.ok 3 (Or.inl (by decide))
  have r1 : ∀ {m' : jm_M}, SST m' ad → m'.2.2.2.2 (ad 0) 0 = some (ad 1) := fun S => S.2.2.1 (0, 0, 1) (by decide)
  have r3 : ∀ {m' : jm_M}, SST m' ad → m'.2.2.2.2 (ad 0) 2 = some (ad 3) := fun S => S.2.2.1 (0, 2, 3) (by decide)
  have o11 : jm_ok m (ad 11) 52 := S.ok 11 (Or.inl (by decide))
  have r11 : m.2.2.2.2 (ad 1) 9 = some (ad 11) := S.2.2.1 (1, 9, 11) (by decide)
  have l11 : (m.2.1 (ad 11)).2 = 3 := S.len 11 (Or.inl (by decide))
  have o12 : jm_ok m (ad 12) 51 := S.ok 12 (Or.inl (by decide))
  have r12 : m.2.2.2.2 (ad 1) 10 = some (ad 12) := S.2.2.1 (1, 10, 12) (by decide)
  have l12 : (m.2.1 (ad 12)).2 = 3 := S.len 12 (Or.inl (by decide))
  have o13 : ∀ {m' : jm_M}, SST m' ad → jm_ok m' (ad 13) 51 := fun S => S.ok 13 (Or.inl (by decide))
  have r13 : ∀ {m' : jm_M}, SST m' ad → m'.2.2.2.2 (ad 1) 11 = some (ad 13) := fun S => S.2.2.1 (1, 11, 13) (by decide)
  have l13 : ∀ {m' : jm_M}, SST m' ad → (m'.2.1 (ad 13)).2 = 3 := fun S => S.len 13 (Or.inl (by decide))
  have hsp := hSp j hj
  have ej : (nI j).toInt = (j : Int) := nI_toInt (by omega)
  have khm := k_hm (l := l) (D := D) (ca := ca) h hKn (nI j)
  rw [ej] at khm
  have e11 : m.2.2.1 (ad 11) (nI j).toNatClampNeg = bI (c.2.1 j) := by rw [nI_c (by omega), h.2.2.2.2.1]
  have e12 : m.2.2.2.1 (ad 12) (nI j).toNatClampNeg = lN (c.2.2.1 j) := by rw [nI_c (by omega), h.2.2.2.2.2.1]
  refine jm_run hX [(25, [0, 1])] 40 ?_
  refine And.intro (o0 S) ⟨some (ad 3), r3 S, ?_⟩
  refine And.intro (o3 S) (And.intro (Nat.le_of_ble_eq_true rfl) (And.intro (Nat.le_of_ble_eq_true rfl) ⟨0, 0, _, Nat.le_refl _, Nat.le_refl _, khm, fun v m' hq => ?_⟩))
  obtain ⟨ee, rfl⟩ := hq
  have ee := ee.symm
  subst ee
  by_cases q1 : c.2.2.2.2.2.1 = true ∧ (0 : Int) ≤ j ∧ (j : Int) < (c.2.2.2.2.2.2.1.2.1 : Int)
  · rw [if_pos q1]
    refine And.intro (fun g => absurd g (by decide)) (fun _ => ?_)
    refine And.intro (o0 S) ⟨some (ad 1), r1 S, And.intro (o1 S) ⟨some (ad 11), r11, And.intro o11 (And.intro (vin_of l11 hj (by decide)) ?_)⟩⟩
    have ho : outB c V j = (c.2.1 j && (decide (V (128 + j) < c.2.2.1 j * V 118) || decide (c.2.2.2.1 j * V 118 < V (128 + j)))) := by
      unfold outB
      rw [q1.1, decide_eq_true (show j < c.2.2.2.2.2.2.1.2.1 by omega)]; rfl
    obtain ⟨k1, k2, k3, k4, F, hF⟩ := hKn q1.1
    have sz := (hF.sz k4).1
    have hbig : ∀ g, g ≤ 1000000000 → g * V 118 < wB ^ 13 := fun g hg => Nat.lt_of_le_of_lt (Nat.mul_le_mul hg sz.2) (show 1000000000 * 166320 ^ 9 < wB ^ 13 by decide)
    refine And.intro (fun g => ?_) (fun g => ?_)
    · have g : m.2.2.1 (ad 11) (nI j).toNatClampNeg = 0 := g
      rw [e11] at g
      refine ⟨Nat.le_refl _, Nat.le_refl _, Or.inl rfl, ?_, FRW.rf, V, hW, fun _ _ => rfl⟩
      rw [ho]
      cases hb : c.2.1 j with
      | false => rfl
      | true => rw [hb] at g; exact absurd g (by decide)
    · have g : ¬ m.2.2.1 (ad 11) (nI j).toNatClampNeg = 0 := g
      rw [e11] at g
      have hb : c.2.1 j = true := by
        cases hb : c.2.1 j with
        | true => rfl
        | false => rw [hb] at g; exact absurd rfl g
      rw [hb, Bool.true_and] at ho
      have key1 := c_So_compareLoad (l := l) (D := D) (ca := ca) (j := j) (g := c.2.2.1 j) S hW hj (by omega) (hbig _ hsp.1)
      have kk : X 25 [(0, .ref (ad 0)), (1, .int (nI j))] [] m 0 0 := by
        refine jm_run hX [(45, [0, 1])] 40 ?_
        refine And.intro (o0 S) ⟨some (ad 3), r3 S, And.intro (o0 S) ⟨some (ad 1), r1 S, And.intro (o1 S) ⟨some (ad 12), r12, And.intro o12 (And.intro (vin_of l12 hj (by decide)) ?_)⟩⟩⟩
        rw [e12]
        refine And.intro (o3 S) (And.intro (Nat.le_of_ble_eq_true rfl) (And.intro (Nat.le_of_ble_eq_true rfl) ⟨0, 0, _, Nat.le_refl _, Nat.le_refl _, key1, fun v m1 hq => ?_⟩))
        obtain ⟨rfl, hR1, hW1⟩ := hq
        have S1 := hR1.S S
        refine And.intro (fun g1 => ?_) (fun g1 => ?_)
        · have g1 : cmpI (V (128 + j)) (c.2.2.1 j * V 118) < 0 := g1
          rw [cmp_lt] at g1
          refine ⟨Nat.le_refl _, Nat.le_refl _, Or.inr rfl, ?_, hR1, _, hW1, fun i hi => va_up_ne _ _ hi⟩
          rw [ho, decide_eq_true g1]; rfl
        · have g1 : ¬ cmpI (V (128 + j)) (c.2.2.1 j * V 118) < 0 := g1
          rw [cmp_lt] at g1
          have key2 := c_So_compareLoad (l := l) (D := D) (ca := ca) (j := j) (g := c.2.2.2.1 j) S1 hW1 hj (by omega) (by rw [va_up_ne _ _ (show 118 ≠ 131 by decide)]; exact hbig _ hsp.2)
          rw [va_up_ne _ _ (show 118 ≠ 131 by decide), va_up_ne _ _ (show 128 + j ≠ 131 by omega)] at key2
          have e13 : m1.2.2.2.1 (ad 13) (nI j).toNatClampNeg = lN (c.2.2.2.1 j) := by rw [nI_c (by omega), hR1.2.2.2.1, h.2.2.2.2.2.2.1]
          have kk2 : X 45 [(0, .ref (ad 0)), (1, .int (nI j))] [] m1 0 0 := by
            refine jm_run hX [] 40 ?_
            refine And.intro (o0 S1) ⟨some (ad 3), r3 S1, And.intro (o0 S1) ⟨some (ad 1), r1 S1, And.intro (o1 S1) ⟨some (ad 13), r13 S1, And.intro (o13 S1) (And.intro (vin_of (l13 S1) hj (by decide)) ?_)⟩⟩⟩
            rw [e13]
            refine And.intro (o3 S1) (And.intro (Nat.le_of_ble_eq_true rfl) (And.intro (Nat.le_of_ble_eq_true rfl) ⟨0, 0, _, Nat.le_refl _, Nat.le_refl _, key2, fun v m2 hq => ?_⟩))
            obtain ⟨rfl, hR2, hW2⟩ := hq
            have same : ∀ i, i ≠ 131 → va_up (va_up V 131 (c.2.2.1 j * V 118)) 131 (c.2.2.2.1 j * V 118) i = V i := fun i hi => by rw [va_up_ne _ _ hi, va_up_ne _ _ hi]
            refine And.intro (fun g2 => ?_) (fun g2 => ?_)
            · have g2 : cmpI (V (128 + j)) (c.2.2.2.1 j * V 118) ≤ 0 := g2
              rw [cmp_le] at g2
              refine ⟨Nat.le_refl _, Nat.le_refl _, Or.inl rfl, ?_, hR1.tr hR2, _, hW2, same⟩
              rw [ho, decide_eq_false g1, decide_eq_false g2]; rfl
            · have g2 : ¬ cmpI (V (128 + j)) (c.2.2.2.1 j * V 118) ≤ 0 := g2
              rw [cmp_le, Decidable.not_not] at g2
              refine ⟨Nat.le_refl _, Nat.le_refl _, Or.inr rfl, ?_, hR1.tr hR2, _, hW2, same⟩
              rw [ho, decide_eq_false g1, decide_eq_true g2]; rfl
          exact kk2
      exact kk
  · rw [if_neg q1]
    refine And.intro (fun _ => ?_) (fun g => absurd rfl g)
    refine ⟨Nat.le_refl _, Nat.le_refl _, Or.inl rfl, ?_, FRW.rf, V, hW, fun _ _ => rfl⟩
    have ho : outB c V j = false := by
      unfold outB
      cases hk : c.2.2.2.2.2.1 with
      | false => rfl
      | true =>
        rw [decide_eq_false (show ¬ j < c.2.2.2.2.2.2.1.2.1 from fun q => q1 ⟨hk, by omega, by omega⟩)]; rfl
    rw [ho]; rfl
/-- the machine that over answers -/
def overR (B : Nat → Bool) (x : Int32) : Nat → Nat → Nat → Int32
  | 0, _, _ => -1
  | e + 1, j, f => if B j = true then (if nI f = x then nI j else overR B x e (j + 1) (f + 1)) else overR B x e (j + 1) f
def overQ (c : CSt) (x : Int32) (r : Int32) : Prop := ∃ V, (c.2.2.2.2.2.1 = true → ∃ F, svN c.2.2.2.2.2.2 F V) ∧ r = overR (outB c V) x 3 0 0
theorem c_Sh_over {m0 : jm_M} {ad : Nat → Nat} {c : CSt} (h0 : CI m0 ad c) (hSp : spOK c) (x : Int32) : jm_C l D ca n_Sh_over [.ref (ad 0), .int x] m0 0 0 (fun v m' => FRa ad m0 m' ∧ CI m' ad c ∧ ∃ r, v = some (.int r) ∧ overQ c x r) := by
  refine jm_C_of (cd := cd_Sh_over) (ini := false) (by decide +kernel) ok_Sh_over (fun h => by cases h) (Nat.le_of_ble_eq_true rfl) ?_
  intro X hX
  obtain ⟨V, hW0, hKn0⟩ := h0.2.2.2.2.2.2.2.2.2
  have hfin : ∀ r, r = overR (outB c V) x 3 0 0 → overQ c x r := fun r hr => ⟨V, fun hk => (hKn0 hk).2.2.2.2, hr⟩
  have loop : ∀ (e j f : Nat) (m : jm_M) (W : Nat → Nat), j + e = 3 → CI m ad c → FRW ad m0 m → WV m ad W → (∀ i, i ≠ 131 → W i = V i) → (c.2.2.2.2.2.1 = true → SV m ad c.1 c.2.2.2.2.2.2 W) → overR (outB c V) x 3 0 0 = overR (outB c V) x e j f → X 4 [(0, .ref (ad 0)), (1, .int x), (2, .int (nI f)), (3, .int (nI j))] [] m 0 0 := by
    intro e
    induction e with
    | zero =>
      intro j f m W hj hC hR hW hs hKn he
      refine jm_run hX [] 20 ?_
      refine And.intro (fun _ => ?_) (fun g => ?_)
      · exact ⟨Nat.le_refl _, Nat.le_refl _, trivial, FRs.W (fun _ _ _ => trivial) hR, hC, -1, rfl, hfin _ (by rw [he]; rfl)⟩
      · have g : ¬ nI 3 ≤ nI j := g
        exact absurd (nI_le (by omega) (by omega)) g
    | succ e ih =>
      intro j f m W hj hC hR hW hs hKn he
      have S := hC.1
      have key := c_Sh_isOutsideSpan (l := l) (D := D) (ca := ca) (j := j) hC hW hKn hSp (by omega)
      have hoW : outB c W j = outB c V j := by
        unfold outB
        rw [hs 118 (by decide), hs (128 + j) (by omega)]
      rw [hoW] at key
      refine jm_run hX [(4, [0, 1, 2, 3])] 40 ?_
      refine And.intro (fun g => ?_) (fun _ => ?_)
      · have g : nI 3 ≤ nI j := g
        exact absurd g (nI_ge (by omega) (by omega))
      refine And.intro (S.ok 0 (Or.inl (by decide))) (And.intro (Nat.le_of_ble_eq_true rfl) (And.intro (Nat.le_of_ble_eq_true rfl) ⟨0, 0, _, Nat.le_refl _, Nat.le_refl _, key, fun v m1 hq => ?_⟩))
      obtain ⟨rfl, hR1, W1, hW1, hs1⟩ := hq
      have hw := hC.w hR1 hKn hW1 (fun i _ h2 => hs1 i (by omega))
      have kn : ∀ f', overR (outB c V) x 3 0 0 = overR (outB c V) x e (j + 1) f' → X 4 [(0, .ref (ad 0)), (1, .int x), (2, .int (nI f')), (3, .int (nI j + 1))] [] m1 0 0 := fun f' he' => by
        rw [nI_1]
        exact ih (j + 1) f' m1 W1 (by omega) hw.1 (hR.tr hR1) hW1 (fun i hi => (hs1 i hi).trans (hs i hi)) hw.2 he'
      have hun : overR (outB c V) x (e + 1) j f = if outB c V j = true then (if nI f = x then nI j else overR (outB c V) x e (j + 1) (f + 1)) else overR (outB c V) x e (j + 1) f := rfl
      rw [hun] at he
      cases hb : outB c V j with
      | false =>
        rw [hb, if_neg (by decide)] at he
        exact And.intro (fun _ => kn f he) (fun g => absurd rfl g)
      | true =>
        rw [hb, if_pos rfl] at he
        refine And.intro (fun g => absurd g (by decide)) (fun _ => ?_)
        refine And.intro (fun g => ?_) (fun g => ?_)
        · have g : nI f = x := g
          rw [if_pos g] at he
          exact ⟨Nat.le_refl _, Nat.le_refl _, trivial, FRs.W (fun _ _ _ => trivial) (hR.tr hR1), hw.1, nI j, rfl, hfin _ he.symm⟩
        · have g : ¬ nI f = x := g
          rw [if_neg g] at he
          have := kn (f + 1) he
          rw [← nI_1] at this
          exact this
  refine jm_run hX [(4, [0, 1, 2, 3])] 10 ?_
  exact loop 3 0 0 m0 V rfl h0 FRW.rf hW0 (fun _ _ => rfl) hKn0 rfl
end SH9
