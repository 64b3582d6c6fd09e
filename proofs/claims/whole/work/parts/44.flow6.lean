/-- the same numbers but for those that eliminateCell works with -/
def sameE (V V' : Nat → Nat) : Prop := ∀ i, i < 132 → i ≠ 109 → i ≠ 110 → i ≠ 114 → i ≠ 115 → i ≠ 116 → V' i = V i
theorem sameE.tr {V1 V2 V3 : Nat → Nat} (h : sameE V1 V2) (g : sameE V2 V3) : sameE V1 V3 := fun i a b c d e f => (g i a b c d e f).trans (h i a b c d e f)
section FL6
variable {l : Launch} {D : va_G} {ca : Nat → ClassId}
set_option maxRecDepth 4000 in
theorem c_Fl_eliminateCell {m : jm_M} {ad V : Nat → Nat} {r c p : Nat} (S : SST m ad) (hV : WV m ad V) (hr : r < 9) (hc : c < 12) (hp : p < 9) (hrp : r ≠ p) (hcp : c ≠ p) (hb0 : 0 < V 108) (hb : V 108 < wB ^ 12) (hbig : V (12 * p + p) * V (12 * r + c) + V (12 * r + p) * V (12 * p + c) < wB ^ 12) (hdg : r = c → V (12 * r + p) * V (12 * p + c) ≤ V (12 * p + p) * V (12 * r + c)) : jm_C l D ca n_Fl_eliminateCell [.ref (ad 2), .int (nI r), .int (nI c), .int (nI p)] m 0 0 (fun v m' => v = none ∧ FRW ad m m' ∧ ∃ V', WV m' ad V' ∧ sameE (va_up V (12 * r + c) ((if r = c then V (12 * p + p) * V (12 * r + c) - V (12 * r + p) * V (12 * p + c) else V (12 * p + p) * V (12 * r + c) + V (12 * r + p) * V (12 * p + c)) / V 108)) V') := by
  refine jm_C_of (cd := cd_Fl_eliminateCell) (ini := false) (by decide +kernel) ok_Fl_eliminateCell (fun h => by cases h) (Nat.le_of_ble_eq_true rfl) ?_
  intro X hX
  have h1213 : wB ^ 12 ≤ wB ^ 13 := Nat.pow_le_pow_right (by decide) (by decide)
  have hi1 : 12 * r + c < 108 := by omega
  have hi2 : 12 * r + p < 108 := by omega
  have hi3 : 12 * p + c < 108 := by omega
  have hi4 : 12 * p + p < 108 := by omega
  have n12 : 12 * r + c ≠ 12 * r + p := by omega
  have key1 := c_Fl_cell (l := l) (D := D) (ca := ca) (r := r) (c := c) S hi1
  have key2 := c_Fl_cell (l := l) (D := D) (ca := ca) (r := r) (c := p) S hi2
  have key3 := c_Fl_cell (l := l) (D := D) (ca := ca) (r := p) (c := c) S hi3
  have key4 := c_Fl_cell (l := l) (D := D) (ca := ca) (r := p) (c := p) S hi4
  generalize e1 : 12 * r + c = i1 at *
  generalize e2 : 12 * r + p = i2 at *
  generalize e3 : 12 * p + c = i3 at *
  generalize e4 : 12 * p + p = i4 at *
  have o2 : ∀ {m' : jm_M}, SST m' ad → jm_ok m' (ad 2) 1 := fun S => S.ok 2 (Or.inl (by decide))
  have o4 : ∀ {m' : jm_M}, SST m' ad → jm_ok m' (ad 4) 0 := fun S => S.ok 4 (Or.inl (by decide))
  have r4 : ∀ {m' : jm_M}, SST m' ad → m'.2.2.2.2 (ad 2) 0 = some (ad 4) := fun S => S.2.2.1 (2, 0, 4) (by decide)
  have rb : ∀ {m' : jm_M}, SST m' ad → m'.2.2.2.2 (ad 2) 1 = some (ad 316) := fun S => S.2.2.1 (2, 1, 316) (by decide)
  have rf : ∀ {m' : jm_M}, SST m' ad → m'.2.2.2.2 (ad 2) 9 = some (ad 318) := fun S => S.2.2.1 (2, 9, 318) (by decide)
  have rs : ∀ {m' : jm_M}, SST m' ad → m'.2.2.2.2 (ad 2) 10 = some (ad 320) := fun S => S.2.2.1 (2, 10, 320) (by decide)
  have rq : ∀ {m' : jm_M}, SST m' ad → m'.2.2.2.2 (ad 4) 0 = some (ad 328) := fun S => S.2.2.1 (4, 0, 328) (by decide)
  generalize hnum : (if r = c then V i4 * V i1 - V i2 * V i3 else V i4 * V i1 + V i2 * V i3) = num at hX ⊢
  have hn12 : num < wB ^ 12 := by
    rw [← hnum]
    split
    · exact Nat.lt_of_le_of_lt (Nat.sub_le _ _) (Nat.lt_of_le_of_lt (Nat.le_add_right _ _) hbig)
    · exact hbig
  have join : ∀ (m2 : jm_M) (V2 : Nat → Nat), FRW ad m m2 → WV m2 ad V2 → V2 109 = num → (∀ i, i < 132 → i ≠ 109 → i ≠ 110 → V2 i = V i) → X 106 [(0, .ref (ad 2)), (4, .ref (ad (100 + 2 * i1)))] [] m2 0 0 := by
    intro m2 V2 hR hV2 h109 hsm
    have S2 := hR.S S
    have h108 : V2 108 = V 108 := hsm 108 (by decide) (by decide) (by decide)
    have key := c_Dv_divide (l := l) (D := D) (ca := ca) (ia := 109) (iu := 108) S2 hV2 (by decide) (by decide) (by decide) (by decide) (by rw [h109]; exact hn12) (by rw [h108]; exact hb)
    refine jm_run hX [] 40 ?_
    refine And.intro (o2 S2) ⟨some (ad 4), r4 S2, And.intro (o2 S2) ⟨some (ad 318), rf S2, And.intro (o2 S2) ⟨some (ad 316), rb S2, ?_⟩⟩⟩
    refine And.intro (o4 S2) (And.intro (Nat.le_of_ble_eq_true rfl) (And.intro (Nat.le_of_ble_eq_true rfl) ⟨0, 0, _, Nat.le_refl _, Nat.le_refl _, key, fun v m3 hq => ?_⟩))
    obtain ⟨rfl, hR3, z, hV3⟩ := hq
    have S3 := hR3.S S2
    have k2 := w_b2 (l := l) (D := D) (ca := ca) (i := i1) (j := 114) S3 hV3 (by omega) (by decide)
    refine And.intro (o2 S3) ⟨some (ad 4), r4 S3, And.intro (o4 S3) ⟨some (ad 328), rq S3, ?_⟩⟩
    refine And.intro (S3.wh i1 (by omega)).1 (And.intro (Nat.le_of_ble_eq_true rfl) (And.intro (Nat.le_of_ble_eq_true rfl) ⟨0, 0, _, Nat.le_refl _, Nat.le_refl _, k2, fun v m4 hq => ?_⟩))
    obtain ⟨rfl, hR4, hV4⟩ := hq
    refine ⟨Nat.le_refl _, Nat.le_refl _, trivial, rfl, hR.tr (hR3.tr hR4), _, hV4, fun i a b c d e f => ?_⟩
    by_cases q : i = i1
    · subst q
      rw [va_up_self, va_up_self, va_up_ne _ _ (by decide), va_up_ne _ _ (by decide), va_up_self, h109, h108]
    · rw [va_up_ne _ _ q, va_up_ne _ _ q, va_up_ne _ _ f, va_up_ne _ _ e, va_up_ne _ _ d]
      exact hsm i a b c
  have main : X 49 [(0, .ref (ad 2)), (1, .int (nI r)), (2, .int (nI c)), (3, .int (nI p)), (4, .ref (ad (100 + 2 * i1))), (5, .ref (ad (100 + 2 * i2))), (6, .ref (ad (100 + 2 * i3)))] [] m 0 0 := by
    have k1 := w_mul (l := l) (D := D) (ca := ca) (i := 109) (j := i4) (k := i1) S hV (by decide) (by omega) (by omega) (by omega) (by omega) (Nat.lt_of_le_of_lt (Nat.le_add_right _ _) (Nat.lt_of_lt_of_le hbig h1213))
    refine jm_run hX [(106, [0, 4])] 60 ?_
    refine And.intro (o2 S) ⟨some (ad 318), rf S, ?_⟩
    refine And.intro (o2 S) (And.intro (Nat.le_of_ble_eq_true rfl) (And.intro (Nat.le_of_ble_eq_true rfl) ⟨0, 0, _, Nat.le_refl _, Nat.le_refl _, key4, fun v m' hq => ?_⟩))
    obtain ⟨ee, rfl⟩ := hq
    have ee := ee.symm
    subst ee
    refine And.intro (S.wh 109 (by decide)).1 (And.intro (Nat.le_of_ble_eq_true rfl) (And.intro (Nat.le_of_ble_eq_true rfl) ⟨0, 0, _, Nat.le_refl _, Nat.le_refl _, k1, fun v m1 hq => ?_⟩))
    obtain ⟨rfl, hR1, hV1⟩ := hq
    have S1 := hR1.S S
    have k2 := w_mul (l := l) (D := D) (ca := ca) (i := 110) (j := i2) (k := i3) S1 hV1 (by decide) (by omega) (by omega) (by omega) (by omega) (by
      rw [va_up_ne _ _ (show i2 ≠ 109 by omega), va_up_ne _ _ (show i3 ≠ 109 by omega)]
      exact Nat.lt_of_le_of_lt (Nat.le_add_left _ _) (Nat.lt_of_lt_of_le hbig h1213))
    rw [va_up_ne _ _ (show i2 ≠ 109 by omega), va_up_ne _ _ (show i3 ≠ 109 by omega)] at k2
    refine And.intro (o2 S1) ⟨some (ad 320), rs S1, ?_⟩
    refine And.intro (S1.wh 110 (by decide)).1 (And.intro (Nat.le_of_ble_eq_true rfl) (And.intro (Nat.le_of_ble_eq_true rfl) ⟨0, 0, _, Nat.le_refl _, Nat.le_refl _, k2, fun v m2 hq => ?_⟩))
    obtain ⟨rfl, hR2, hV2⟩ := hq
    have S2 := hR2.S S1
    have g109 : va_up (va_up V 109 (V i4 * V i1)) 110 (V i2 * V i3) 109 = V i4 * V i1 := by rw [va_up_ne _ _ (by decide), va_up_self]
    have g110 : va_up (va_up V 109 (V i4 * V i1)) 110 (V i2 * V i3) 110 = V i2 * V i3 := va_up_self _ _ _
    refine And.intro (fun g => ?_) (fun g => ?_)
    · have g : nI r = nI c := g
      have he : r = c := (nI_eq (by omega) (by omega)).mp g
      rw [if_pos he] at hnum
      have k3 := w_sub (l := l) (D := D) (ca := ca) (i := 109) (j := 110) S2 hV2 (by decide) (by decide) (by decide) (by rw [g109, g110]; exact hdg he)
      rw [g109, g110, hnum] at k3
      refine And.intro (o2 S2) ⟨some (ad 318), rf S2, And.intro (o2 S2) ⟨some (ad 320), rs S2, ?_⟩⟩
      refine And.intro (S2.wh 109 (by decide)).1 (And.intro (Nat.le_of_ble_eq_true rfl) (And.intro (Nat.le_of_ble_eq_true rfl) ⟨0, 0, _, Nat.le_refl _, Nat.le_refl _, k3, fun v m3 hq => ?_⟩))
      obtain ⟨rfl, hR3, hV3⟩ := hq
      exact join m3 _ (hR1.tr (hR2.tr hR3)) hV3 (va_up_self _ _ _) (fun i h1 h2 h3 => by rw [va_up_ne _ _ h2, va_up_ne _ _ h3, va_up_ne _ _ h2])
    · -- beside the diagonal
      have g : ¬ nI r = nI c := g
      have hne : r ≠ c := fun e => g (by rw [e])
      rw [if_neg hne] at hnum
      have k3 := w_add (l := l) (D := D) (ca := ca) (i := 109) (j := 110) (F := 1) S2 hV2 (by decide) (by decide) (by decide) (by decide) (by rw [g109, g110, Nat.one_mul]; exact Nat.lt_of_lt_of_le hbig h1213)
      rw [g109, g110, Nat.one_mul, hnum] at k3
      refine And.intro (o2 S2) ⟨some (ad 318), rf S2, And.intro (o2 S2) ⟨some (ad 320), rs S2, ?_⟩⟩
      refine And.intro (S2.wh 109 (by decide)).1 (And.intro (Nat.le_of_ble_eq_true rfl) (And.intro (Nat.le_of_ble_eq_true rfl) ⟨0, 0, _, Nat.le_refl _, Nat.le_refl _, k3, fun v m3 hq => ?_⟩))
      obtain ⟨rfl, hR3, hV3⟩ := hq
      exact join m3 _ (hR1.tr (hR2.tr hR3)) hV3 (va_up_self _ _ _) (fun i h1 h2 h3 => by rw [va_up_ne _ _ h2, va_up_ne _ _ h3, va_up_ne _ _ h2])
  -- the answer where nothing is to be done
  have none0 : V i1 = 0 → (V i2 = 0 ∨ V i3 = 0) → sameE (va_up V i1 (num / V 108)) V := by
    intro z1 z2
    have hz : num = 0 := by
      rw [← hnum, z1, Nat.mul_zero]
      rcases z2 with z | z
      · rw [z, Nat.zero_mul]; split <;> rfl
      · rw [z, Nat.mul_zero]; split <;> rfl
    intro i a b c d e f
    rw [hz, Nat.zero_div]
    by_cases q : i = i1
    · subst q; rw [va_up_self]; exact z1
    · rw [va_up_ne _ _ q]
  refine jm_run hX [(49, [0, 1, 2, 3, 4, 5, 6])] 40 ?_
  refine And.intro (o2 S) (And.intro (Nat.le_of_ble_eq_true rfl) (And.intro (Nat.le_of_ble_eq_true rfl) ⟨0, 0, _, Nat.le_refl _, Nat.le_refl _, key1, fun v m' hq => ?_⟩))
  obtain ⟨ee, rfl⟩ := hq
  have ee := ee.symm
  subst ee
  refine And.intro (o2 S) (And.intro (Nat.le_of_ble_eq_true rfl) (And.intro (Nat.le_of_ble_eq_true rfl) ⟨0, 0, _, Nat.le_refl _, Nat.le_refl _, key2, fun v m' hq => ?_⟩))
  obtain ⟨ee, rfl⟩ := hq
  have ee := ee.symm
  subst ee
  refine And.intro (o2 S) (And.intro (Nat.le_of_ble_eq_true rfl) (And.intro (Nat.le_of_ble_eq_true rfl) ⟨0, 0, _, Nat.le_refl _, Nat.le_refl _, key3, fun v m' hq => ?_⟩))
  obtain ⟨ee, rfl⟩ := hq
  have ee := ee.symm
  subst ee
  refine And.intro (S.wh i1 (by omega)).1 (And.intro (Nat.le_of_ble_eq_true rfl) (And.intro (Nat.le_of_ble_eq_true rfl) ⟨0, 0, _, Nat.le_refl _, Nat.le_refl _, w_zero S hV (by omega), fun v m' hq => ?_⟩))
  obtain ⟨ee, rfl⟩ := hq
  have ee := ee.symm
  subst ee
  by_cases z1 : V i1 = 0
  · rw [if_pos z1]
    refine And.intro (fun g => absurd g (by decide)) (fun _ => ?_)
    refine And.intro (S.wh i2 (by omega)).1 (And.intro (Nat.le_of_ble_eq_true rfl) (And.intro (Nat.le_of_ble_eq_true rfl) ⟨0, 0, _, Nat.le_refl _, Nat.le_refl _, w_zero S hV (by omega), fun v m' hq => ?_⟩))
    obtain ⟨ee, rfl⟩ := hq
    have ee := ee.symm
    subst ee
    by_cases z2 : V i2 = 0
    · rw [if_pos z2]
      refine And.intro (fun g => absurd g (by decide)) (fun _ => ?_)
      exact ⟨Nat.le_refl _, Nat.le_refl _, trivial, rfl, FRW.rf, V, hV, none0 z1 (Or.inl z2)⟩
    · rw [if_neg z2]
      refine And.intro (fun _ => ?_) (fun g => absurd rfl g)
      refine And.intro (S.wh i3 (by omega)).1 (And.intro (Nat.le_of_ble_eq_true rfl) (And.intro (Nat.le_of_ble_eq_true rfl) ⟨0, 0, _, Nat.le_refl _, Nat.le_refl _, w_zero S hV (by omega), fun v m' hq => ?_⟩))
      obtain ⟨ee, rfl⟩ := hq
      have ee := ee.symm
      subst ee
      by_cases z3 : V i3 = 0
      · rw [if_pos z3]
        refine And.intro (fun g => absurd g (by decide)) (fun _ => ?_)
        exact ⟨Nat.le_refl _, Nat.le_refl _, trivial, rfl, FRW.rf, V, hV, none0 z1 (Or.inr z3)⟩
      · rw [if_neg z3]
        exact And.intro (fun _ => main) (fun g => absurd rfl g)
  · rw [if_neg z1]
    exact And.intro (fun _ => main) (fun g => absurd rfl g)
end FL6
