/-- Flow and its numbers are all that changed -/
theorem CI.wf {m m1 : jm_M} {ad V V1 : Nat → Nat} {c : CSt} {p : Nat → Prop} (h : CI m ad c) (hRs : FRs ad p m m1) (hp : ∀ k, p k → k = 2 ∨ 15 ≤ k) (hKn : c.2.2.2.2.2.1 = true → SV m ad c.1 c.2.2.2.2.2.2 V) (hW1 : WV m1 ad V1) (hs1 : ∀ i, 118 ≤ i → i < 131 → V1 i = V i) : CI m1 ad c := by
  have S := h.1
  obtain ⟨c1, c2, c3, c4, c5, c6, c7⟩ := h.c0.mv hRs (fun k q => by have := hp k q; omega)
  have at' : ∀ k, k < 15 → k ≠ 2 → m1.2.2.1 (ad k) = m.2.2.1 (ad k) := fun k hk h2 => (hRs.at S (Or.inl (by omega)) (fun q => by have := hp k q; omega)).1
  have key : c.2.2.2.2.2.1 = true → SV m1 ad c.1 c.2.2.2.2.2.2 V1 := fun hk => by
    obtain ⟨k1, k2, k3, k4, F, hF⟩ := hKn hk
    have e3 := at' 3 (by decide) (by decide)
    refine ⟨by rw [e3]; exact k1, by rw [e3]; exact k2, k3, k4, F, hF.1, hF.2.1, ?_, fun p k hp hk => ?_, fun j hj => ?_⟩
    · rw [hs1 118 (by decide) (by decide)]; exact hF.2.2.1
    · have := row_lt k4.1.2 k4.2.2.1 hp hk
      rw [hs1 _ (by omega) (by omega)]; exact hF.2.2.2.1 p k hp hk
    · have := k4.2.1
      rw [hs1 _ (by omega) (by omega)]; exact hF.2.2.2.2 j hj
  refine ⟨c1, c2, c3, c4, c5, c6, c7, ?_, ?_, V1, hW1, key⟩
  · rw [at' 0 (by decide) (by decide)]; exact h.2.2.2.2.2.2.2.1
  · rw [at' 3 (by decide) (by decide)]; exact h.2.2.2.2.2.2.2.2.1
theorem fP_hi : ∀ k, fP k → k = 2 ∨ 15 ≤ k := fun k q => by unfold fP fk at q; omega
/-- what slope answers -/
def slT (d : LD) (x y z p t : Int32) : Prop := ((0 ≤ x.toInt ∧ x.toInt < (d.1.2.1 : Int)) ∧ (0 ≤ y.toInt ∧ y.toInt < (d.1.1 : Int)) ∧ 0 ≤ z.toInt ∧ z.toInt + 1 < (d.2.1 x.toInt.toNat : Int)) ∧ (0 ≤ p.toInt ∧ p.toInt < (d.1.2.2 : Int)) ∧ 0 ≤ t.toInt ∧ t.toInt ≤ 6
def slopeQ (c : CSt) (x y z p t : Int32) (r : Int64) : Prop :=
  (slT c.1 x y z p t ∧ stands c.1 ∧ ∃ F, RA c.1 F (c.1.1.2.1 * c.1.1.1) ∧ r = slp c.1 F x.toInt.toNat y.toInt.toNat z.toInt.toNat p.toInt.toNat t.toInt.toNat) ∨ (¬ (slT c.1 x y z p t ∧ stands c.1) ∧ r = -1)
section SH10
variable {l : Launch} {D : va_G} {ca : Nat → ClassId}
theorem c_Sh_slope {m : jm_M} {ad : Nat → Nat} {c : CSt} (h : CI m ad c) (hB : LB c.1) (hFG : stands c.1 → ∀ F, RA c.1 F (c.1.1.2.1 * c.1.1.1) → FG (c.1.1.2.1 * c.1.1.1) F) (x y z p t : Int32) : jm_C l D ca n_Sh_slope [.ref (ad 0), .int x, .int y, .int z, .int p, .int t] m 0 0 (fun v m' => FRa ad m m' ∧ CI m' ad c ∧ ∃ r, v = some (.long r) ∧ slopeQ c x y z p t r) := by
  refine jm_C_of (cd := cd_Sh_slope) (ini := false) (by decide +kernel) ok_Sh_slope (fun h => by cases h) (Nat.le_of_ble_eq_true rfl) ?_
  intro X hX
  have S := h.1
  have L := h.2.1
  have hO := h.2.2.1
  have hK := hO.1
  have hM := hO.2.1
  have hP := hO.2.2.1
  have o0 : ∀ {m' : jm_M}, SST m' ad → jm_ok m' (ad 0) 5 := fun S => S.ok 0 (Or.inl (by decide))
  have o1 : ∀ {m' : jm_M}, SST m' ad → jm_ok m' (ad 1) 2 := fun S => S.ok 1 (Or.inl (by decide))
  have o2 : ∀ {m' : jm_M}, SST m' ad → jm_ok m' (ad 2) 1 := fun S => S.ok 2 (Or.inl (by decide))
  have r1 : ∀ {m' : jm_M}, SST m' ad → m'.2.2.2.2 (ad 0) 0 = some (ad 1) := fun S => S.2.2.1 (0, 0, 1) (by decide)
  have r2 : ∀ {m' : jm_M}, SST m' ad → m'.2.2.2.2 (ad 0) 1 = some (ad 2) := fun S => S.2.2.1 (0, 1, 2) (by decide)
  refine jm_run hX [(37, [0, 1, 2, 3, 4, 5])] 40 ?_
  refine And.intro (o0 S) ⟨some (ad 1), r1 S, ?_⟩
  refine And.intro (o1 S) (And.intro (Nat.le_of_ble_eq_true rfl) (And.intro (Nat.le_of_ble_eq_true rfl) ⟨0, 0, _, Nat.le_refl _, Nat.le_refl _, c_Ln_hasSharedOut S L hO x y z, fun v m' hq => ?_⟩))
  obtain ⟨ee, rfl⟩ := hq
  have ee := ee.symm
  subst ee
  by_cases h1 : (0 ≤ x.toInt ∧ x.toInt < (c.1.1.2.1 : Int)) ∧ (0 ≤ y.toInt ∧ y.toInt < (c.1.1.1 : Int)) ∧ 0 ≤ z.toInt ∧ z.toInt + 1 < (c.1.2.1 x.toInt.toNat : Int)
  · rw [if_pos h1]
    refine And.intro (fun q => absurd q (by decide)) (fun _ => ?_)
    refine And.intro (o0 S) ⟨some (ad 1), r1 S, ?_⟩
    refine And.intro (o1 S) (And.intro (Nat.le_of_ble_eq_true rfl) (And.intro (Nat.le_of_ble_eq_true rfl) ⟨0, 0, _, Nat.le_refl _, Nat.le_refl _, c_Ln_hasPort S L (by omega) p, fun v m' hq => ?_⟩))
    obtain ⟨ee, rfl⟩ := hq
    have ee := ee.symm
    subst ee
    by_cases h2 : 0 ≤ p.toInt ∧ p.toInt < (c.1.1.2.2 : Int)
    · rw [if_pos h2]
      refine And.intro (fun q => absurd q (by decide)) (fun _ => ?_)
      refine ⟨Nat.le_of_ble_eq_true rfl, Nat.le_of_ble_eq_true rfl, 0, 0, _, Nat.le_refl _, Nat.le_refl _, c_Sh_isPart t, fun v m' hq => ?_⟩
      obtain ⟨ee, rfl⟩ := hq
      have ee := ee.symm
      subst ee
      by_cases h3 : 0 ≤ t.toInt ∧ t.toInt ≤ 6
      · rw [if_pos h3]
        refine And.intro (fun q => absurd q (by decide)) (fun _ => ?_)
        have ex : x = nI x.toInt.toNat := i_of h1.1.1
        have ey : y = nI y.toInt.toNat := i_of h1.2.1.1
        have ez : z = nI z.toInt.toNat := i_of h1.2.2.1
        have ep : p = nI p.toInt.toNat := i_of h2.1
        have et : t = nI t.toInt.toNat := i_of h3.1
        have kfs := c_Ln_firstStuck (l := l) (D := D) (ca := ca) S L hO h.2.2.2.1
        have kk : X 37 [(0, .ref (ad 0)), (1, .int x), (2, .int y), (3, .int z), (4, .int p), (5, .int t)] [] m 0 0 := by
          refine jm_run hX [(48, [0]), (52, [0, 1, 2, 3, 4, 5])] 20 ?_
          refine And.intro (o0 S) ⟨some (ad 1), r1 S, ?_⟩
          refine And.intro (o1 S) (And.intro (Nat.le_of_ble_eq_true rfl) (And.intro (Nat.le_of_ble_eq_true rfl) ⟨0, 0, _, Nat.le_refl _, Nat.le_refl _, kfs, fun v m1 hq => ?_⟩))
          obtain ⟨em, r, rfl, hfs⟩ := hq
          have hC1 := h.go em
          have hR1 : FRa ad m m1 := by rw [em]; exact (FRs.uA (p := fun k => k = 14) (i := 14) (Or.inl (by decide)) rfl).a
          clear em
          rcases hfs with ⟨j, hj, er, hst, _⟩ | ⟨er, hst⟩
          · subst er
            have kk1 : X 48 [(0, .ref (ad 0))] [] m1 0 0 := by
              refine jm_run hX [] 10 ?_
              exact ⟨Nat.le_refl _, Nat.le_refl _, trivial, hR1, hC1, -1, rfl, Or.inr ⟨fun q => q.2 j hj hst, rfl⟩⟩
            refine And.intro (fun g => ?_) (fun _ => kk1)
            exact absurd g (nI_ne_m1 (by omega))
          · subst er
            have kk1 : X 52 [(0, .ref (ad 0)), (1, .int x), (2, .int y), (3, .int z), (4, .int p), (5, .int t)] [] m1 0 0 := by
              have S1 := hC1.1
              have L1 := hC1.2.1
              obtain ⟨V, hW, hKn⟩ := hC1.2.2.2.2.2.2.2.2.2
              obtain ⟨F, hF⟩ := FlV_ex m1 ad
              have key := c_Fl_slopePart (l := l) (D := D) (ca := ca) (j := x.toInt.toNat) (k := y.toInt.toNat) (o := z.toInt.toNat) (p := p.toInt.toNat) (pt := t.toInt.toNat) S1 L1 hO hB hF hW (hFG hst) (by omega) (by omega) (by omega) (by omega) (by omega)
              rw [← ex, ← ey, ← ez, ← ep, ← et] at key
              refine jm_run hX [] 20 ?_
              refine And.intro (o0 S1) ⟨some (ad 2), r2 S1, ?_⟩
              refine And.intro (o2 S1) (And.intro (Nat.le_of_ble_eq_true rfl) (And.intro (Nat.le_of_ble_eq_true rfl) ⟨0, 0, _, Nat.le_refl _, Nat.le_refl _, key, fun v m2 hq => ?_⟩))
              obtain ⟨F', hA, rfl, hR2, _, V', hW', hs'⟩ := hq
              exact ⟨Nat.le_refl _, Nat.le_refl _, trivial, hR1.tr hR2.a, hC1.wf hR2 fP_hi hKn hW' (fun i h1 h2 => hs' i h1 (by omega)), _, rfl, Or.inl ⟨⟨h1, h2, h3⟩, hst, F', hA, rfl⟩⟩
            refine And.intro (fun _ => kk1) (fun g => ?_)
            exact absurd rfl g
        exact kk
      · rw [if_neg h3]
        refine And.intro (fun _ => ?_) (fun q => absurd rfl q)
        exact ⟨Nat.le_refl _, Nat.le_refl _, trivial, FRs.rf, h, -1, rfl, Or.inr ⟨fun q => h3 q.1.2.2, rfl⟩⟩
    · rw [if_neg h2]
      refine And.intro (fun _ => ?_) (fun q => absurd rfl q)
      exact ⟨Nat.le_refl _, Nat.le_refl _, trivial, FRs.rf, h, -1, rfl, Or.inr ⟨fun q => h2 q.1.2.1, rfl⟩⟩
  · rw [if_neg h1]
    refine And.intro (fun _ => ?_) (fun q => absurd rfl q)
    exact ⟨Nat.le_refl _, Nat.le_refl _, trivial, FRs.rf, h, -1, rfl, Or.inr ⟨fun q => h1 q.1.1, rfl⟩⟩
/-- what purity answers -/
def purityQ (c : CSt) (x y z : Int32) (r : Int64) : Prop :=
  if c.2.2.2.2.2.1 = true ∧ (0 ≤ x.toInt ∧ x.toInt < (c.2.2.2.2.2.2.1.2.2 : Int)) ∧ (0 ≤ y.toInt ∧ y.toInt < (c.1.1.1 : Int)) ∧ 0 ≤ z.toInt ∧ z.toInt ≤ 6 then
    ∃ F V, svN c.2.2.2.2.2.2 F V ∧ r = if ds_nS (fun k => V (119 + (x.toInt.toNat * c.1.1.1 + k))) c.1.1.1 = 0 then -1 else lN (ppart (V (119 + (x.toInt.toNat * c.1.1.1 + y.toInt.toNat))) (ds_nS (fun k => V (119 + (x.toInt.toNat * c.1.1.1 + k))) c.1.1.1) z.toInt.toNat)
  else r = -1
theorem c_Sh_purity {m : jm_M} {ad : Nat → Nat} {c : CSt} (h : CI m ad c) (x y z : Int32) : jm_C l D ca n_Sh_purity [.ref (ad 0), .int x, .int y, .int z] m 0 0 (fun v m' => FRa ad m m' ∧ CI m' ad c ∧ ∃ r, v = some (.long r) ∧ purityQ c x y z r) := by
  refine jm_C_of (cd := cd_Sh_purity) (ini := false) (by decide +kernel) ok_Sh_purity (fun h => by cases h) (Nat.le_of_ble_eq_true rfl) ?_
  intro X hX
  have S := h.1
  have L := h.2.1
  have hO := h.2.2.1
  have hK := hO.1
  obtain ⟨V, hW, hKn⟩ := h.2.2.2.2.2.2.2.2.2
  have o0 : ∀ {m' : jm_M}, SST m' ad → jm_ok m' (ad 0) 5 := fun S => S.ok 0 (Or.inl (by decide))
  have o1 : ∀ {m' : jm_M}, SST m' ad → jm_ok m' (ad 1) 2 := fun S => S.ok 1 (Or.inl (by decide))
  have o2 : ∀ {m' : jm_M}, SST m' ad → jm_ok m' (ad 2) 1 := fun S => S.ok 2 (Or.inl (by decide))
  have o3 : ∀ {m' : jm_M}, SST m' ad → jm_ok m' (ad 3) 3 := fun S => S.ok 3 (Or.inl (by decide))
  have o4 : ∀ {m' : jm_M}, SST m' ad → jm_ok m' (ad 4) 0 := fun S => S.ok 4 (Or.inl (by decide))
  have r1 : ∀ {m' : jm_M}, SST m' ad → m'.2.2.2.2 (ad 0) 0 = some (ad 1) := fun S => S.2.2.1 (0, 0, 1) (by decide)
  have r2 : ∀ {m' : jm_M}, SST m' ad → m'.2.2.2.2 (ad 0) 1 = some (ad 2) := fun S => S.2.2.1 (0, 1, 2) (by decide)
  have r3 : ∀ {m' : jm_M}, SST m' ad → m'.2.2.2.2 (ad 0) 2 = some (ad 3) := fun S => S.2.2.1 (0, 2, 3) (by decide)
  have r4 : ∀ {m' : jm_M}, SST m' ad → m'.2.2.2.2 (ad 2) 0 = some (ad 4) := fun S => S.2.2.1 (2, 0, 4) (by decide)
  have ra : ∀ {m' : jm_M}, SST m' ad → m'.2.2.2.2 (ad 3) 4 = some (ad 41) := fun S => S.2.2.1 (3, 4, 41) (by decide)
  have o41 : ∀ {m' : jm_M}, SST m' ad → jm_ok m' (ad 41) 53 := fun S => S.ok 41 (Or.inl (by decide))
  have l41 : ∀ {m' : jm_M}, SST m' ad → (m'.2.1 (ad 41)).2 = 9 := fun S => S.len 41 (Or.inl (by decide))
  have hno : ¬ (c.2.2.2.2.2.1 = true ∧ (0 ≤ x.toInt ∧ x.toInt < (c.2.2.2.2.2.2.1.2.2 : Int)) ∧ (0 ≤ y.toInt ∧ y.toInt < (c.1.1.1 : Int)) ∧ 0 ≤ z.toInt ∧ z.toInt ≤ 6) → purityQ c x y z (-1) := fun hp => by
    unfold purityQ
    rw [if_neg hp]
  refine jm_run hX [(33, [0, 1, 2, 3])] 40 ?_
  refine And.intro (o0 S) ⟨some (ad 3), r3 S, ?_⟩
  refine And.intro (o3 S) (And.intro (Nat.le_of_ble_eq_true rfl) (And.intro (Nat.le_of_ble_eq_true rfl) ⟨0, 0, _, Nat.le_refl _, Nat.le_refl _, k_hp h hKn x, fun v m' hq => ?_⟩))
  obtain ⟨ee, rfl⟩ := hq
  have ee := ee.symm
  subst ee
  by_cases q1 : c.2.2.2.2.2.1 = true ∧ 0 ≤ x.toInt ∧ x.toInt < (c.2.2.2.2.2.2.1.2.2 : Int)
  · rw [if_pos q1]
    refine And.intro (fun g => absurd g (by decide)) (fun _ => ?_)
    refine And.intro (o0 S) ⟨some (ad 1), r1 S, ?_⟩
    refine And.intro (o1 S) (And.intro (Nat.le_of_ble_eq_true rfl) (And.intro (Nat.le_of_ble_eq_true rfl) ⟨0, 0, _, Nat.le_refl _, Nat.le_refl _, c_Ln_hasKind S L (by omega) y, fun v m' hq => ?_⟩))
    obtain ⟨ee, rfl⟩ := hq
    have ee := ee.symm
    subst ee
    by_cases q2 : 0 ≤ y.toInt ∧ y.toInt < (c.1.1.1 : Int)
    · rw [if_pos q2]
      refine And.intro (fun g => absurd g (by decide)) (fun _ => ?_)
      refine ⟨Nat.le_of_ble_eq_true rfl, Nat.le_of_ble_eq_true rfl, 0, 0, _, Nat.le_refl _, Nat.le_refl _, c_Sh_isPart z, fun v m' hq => ?_⟩
      obtain ⟨ee, rfl⟩ := hq
      have ee := ee.symm
      subst ee
      by_cases q3 : 0 ≤ z.toInt ∧ z.toInt ≤ 6
      · rw [if_pos q3]
        refine And.intro (fun g => absurd g (by decide)) (fun _ => ?_)
        obtain ⟨k1, k2, k3, k4, F, hF⟩ := hKn q1.1
        have sz := hF.sz k4
        have hP3 := k4.2.2.1
        have ex : x = nI x.toInt.toNat := i_of q1.2.1
        have ey : y = nI y.toInt.toNat := i_of q2.1
        have ez : z = nI z.toInt.toNat := i_of q3.1
        have hp : x.toInt.toNat < c.2.2.2.2.2.2.1.2.2 := by omega
        have hk : y.toInt.toNat < c.2.2.2.2.2.2.1.1 := by omega
        have hrow := row_lt k4.1.2 k4.2.2.1 hp hk
        have s1 := sz.2.1 _ _ hp hk
        have s2 : ∀ k, k < c.2.2.2.2.2.2.1.1 → V (119 + (x.toInt.toNat * c.2.2.2.2.2.2.1.1 + k)) ≤ 9 * (83160 * (166320 ^ 8 * 9000000)) := fun k hk => sz.2.1 _ _ hp hk
        rw [k3] at hrow s1 s2
        have hsum : ds_nS (fun k => V (119 + (x.toInt.toNat * c.1.1.1 + k))) c.1.1.1 ≤ 3 * (9 * (83160 * (166320 ^ 8 * 9000000))) := Nat.le_trans (ds_nS_bd s2) (Nat.mul_le_mul_right _ hK.2)
        have kall := c_So_allAtPort (l := l) (D := D) (ca := ca) (p := x.toInt.toNat) S L hO hW (by omega) (Nat.lt_of_le_of_lt hsum (by decide))
        rw [← ex] at kall
        have hans : ∀ r, r = (if ds_nS (fun k => V (119 + (x.toInt.toNat * c.1.1.1 + k))) c.1.1.1 = 0 then -1 else lN (ppart (V (119 + (x.toInt.toNat * c.1.1.1 + y.toInt.toNat))) (ds_nS (fun k => V (119 + (x.toInt.toNat * c.1.1.1 + k))) c.1.1.1) z.toInt.toNat)) → purityQ c x y z r := fun r hr => by
          unfold purityQ
          rw [if_pos ⟨q1.1, q1.2, q2, q3⟩]
          exact ⟨F, V, hF, hr⟩
        generalize hsu : ds_nS (fun k => V (119 + (x.toInt.toNat * c.1.1.1 + k))) c.1.1.1 = su at *
        have kk : X 33 [(0, .ref (ad 0)), (1, .int x), (2, .int y), (3, .int z)] [] m 0 0 := by
          refine jm_run hX [(59, [0, 1, 2, 3, 4])] 40 ?_
          refine And.intro (o0 S) ⟨some (ad 3), r3 S, And.intro (o0 S) ⟨some (ad 1), r1 S, ?_⟩⟩
          refine And.intro (o3 S) (And.intro (Nat.le_of_ble_eq_true rfl) (And.intro (Nat.le_of_ble_eq_true rfl) ⟨0, 0, _, Nat.le_refl _, Nat.le_refl _, kall, fun v m1 hq => ?_⟩))
          obtain ⟨rfl, hR1, hW1⟩ := hq
          have S1 := hR1.S S
          have L1 := hR1.L S L
          have hw1 := h.w hR1 hKn hW1 (fun i h1 h2 => va_up_ne _ _ (by omega))
          have kz := w_zero (l := l) (D := D) (ca := ca) (i := 131) S1 hW1 (by decide)
          rw [va_up_self] at kz
          refine And.intro (S1.wh 131 (by decide)).1 (And.intro (Nat.le_of_ble_eq_true rfl) (And.intro (Nat.le_of_ble_eq_true rfl) ⟨0, 0, _, Nat.le_refl _, Nat.le_refl _, kz, fun v m' hq => ?_⟩))
          obtain ⟨ee, rfl⟩ := hq
          have ee := ee.symm
          subst ee
          have hRs1 : FRs ad (fun k => 100 ≤ k) m m1 := FRs.W (fun k h _ => h) hR1
          by_cases hz : su = 0
          · rw [if_pos hz]
            refine And.intro (fun g => absurd g (by decide)) (fun _ => ?_)
            exact ⟨Nat.le_refl _, Nat.le_refl _, trivial, hRs1.a, hw1.1, -1, rfl, hans _ (by rw [if_pos hz])⟩
          · rw [if_neg hz]
            refine And.intro (fun _ => ?_) (fun g => absurd rfl g)
            have key0 := c_Ln_row (l := l) (D := D) (ca := ca) (j := x.toInt.toNat) (k := y.toInt.toNat) S1 L1
            rw [← ex, ← ey] at key0
            generalize hrr : x.toInt.toNat * c.1.1.1 + y.toInt.toNat = rr at *
            have key1 := c_Dv_partOf (l := l) (D := D) (ca := ca) (ia := 119 + rr) (iu := 131) (pt := z.toInt.toNat) S1 hW1 (by omega) (by decide) (by omega) (by decide) (by rw [va_up_ne _ _ (show 119 + rr ≠ 131 by omega)]; exact Nat.lt_of_le_of_lt s1 (by decide)) (by rw [va_up_self]; exact Nat.lt_of_le_of_lt hsum (by decide)) (by rw [va_up_self]; omega) (by omega)
            rw [← ez, va_up_self, va_up_ne _ _ (show 119 + rr ≠ 131 by omega)] at key1
            have kk2 : X 59 [(0, .ref (ad 0)), (1, .int x), (2, .int y), (3, .int z), (4, .ref (ad (100 + 2 * 131)))] [] m1 0 0 := by
              refine jm_run hX [] 40 ?_
              refine And.intro (o0 S1) ⟨some (ad 2), r2 S1, And.intro (o2 S1) ⟨some (ad 4), r4 S1, And.intro (o0 S1) ⟨some (ad 3), r3 S1, And.intro (o3 S1) ⟨some (ad 41), ra S1, And.intro (o0 S1) ⟨some (ad 1), r1 S1, ?_⟩⟩⟩⟩⟩
              refine And.intro (o1 S1) (And.intro (Nat.le_of_ble_eq_true rfl) (And.intro (Nat.le_of_ble_eq_true rfl) ⟨0, 0, _, Nat.le_refl _, Nat.le_refl _, key0, fun v m' hq => ?_⟩))
              obtain ⟨ee, rfl⟩ := hq
              have ee := ee.symm
              subst ee
              refine And.intro (o41 S1) (And.intro (vin_of (l41 S1) hrow (by decide)) ⟨some (ad (100 + 2 * (119 + rr))), ?_, ?_⟩)
              · rw [nI_c (by omega), ← e41]; exact S1.2.2.2.2.2.2.2.2.1 rr hrow
              refine And.intro (o4 S1) (And.intro (Nat.le_of_ble_eq_true rfl) (And.intro (Nat.le_of_ble_eq_true rfl) ⟨0, 0, _, Nat.le_refl _, Nat.le_refl _, key1, fun v m2 hq => ?_⟩))
              obtain ⟨rfl, hR2, V2, hW2, hs2⟩ := hq
              have hRs2 : FRs ad (fun k => 100 ≤ k) m1 m2 := FRs.W (fun k h _ => h) hR2
              exact ⟨Nat.le_refl _, Nat.le_refl _, trivial, (hRs1.tr hRs2).a, (hw1.1.w hR2 hw1.2 hW2 (fun i h1 h2 => hs2 i (by omega) (by omega) (by omega) (by omega) (by omega))).1, _, rfl, hans _ (by rw [if_neg hz])⟩
            exact kk2
        exact kk
      · rw [if_neg q3]
        refine And.intro (fun _ => ?_) (fun g => absurd rfl g)
        exact ⟨Nat.le_refl _, Nat.le_refl _, trivial, FRs.rf, h, -1, rfl, hno (fun q => q3 q.2.2.2)⟩
    · rw [if_neg q2]
      refine And.intro (fun _ => ?_) (fun g => absurd rfl g)
      exact ⟨Nat.le_refl _, Nat.le_refl _, trivial, FRs.rf, h, -1, rfl, hno (fun q => q2 q.2.2.1)⟩
  · rw [if_neg q1]
    refine And.intro (fun _ => ?_) (fun g => absurd rfl g)
    exact ⟨Nat.le_refl _, Nat.le_refl _, trivial, FRs.rf, h, -1, rfl, hno (fun q => q1 ⟨q.1, q.2.1⟩)⟩
end SH10
