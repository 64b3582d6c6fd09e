/-- above / below as it is told -/
def isSh (x y : Int64) : Prop := (1 ≤ y.toInt ∧ y.toInt ≤ 12) ∧ 0 ≤ x.toInt ∧ x.toInt ≤ y.toInt
def unS (x y : Int64) : Nat := x.toInt.toNat * (27720 / y.toInt.toNat)
theorem un_le {a b : Nat} (hb : 1 ≤ b) (ha : a ≤ b) : a * (27720 / b) ≤ 27720 :=
  Nat.le_trans (Nat.mul_le_mul_right _ ha) (Nat.mul_div_le 27720 b)
theorem unS_le {x y : Int64} (h : isSh x y) : unS x y ≤ 27720 := by
  unfold isSh at h
  exact un_le (by omega) (by omega)
theorem LOK.shr {d : LD} {j k o u : Nat} (h : LOK d) (hu : u ≤ 27720) (hr : d.2.2.2.1 (3 * (j * d.1.1 + k) + (d.2.1 j - 1)) + d.2.2.2.1 (3 * (j * d.1.1 + k) + o) - u ≤ 27720) : LOK (dShare d j k o u) := by
  obtain ⟨h1, h2, h3, h4, h5, h6, h7, h8, h9⟩ := h
  refine ⟨h1, h2, h3, h4, h5, fun r hr' q hq => ?_, h7, h8, h9⟩
  show va_up (va_up d.2.2.2.1 (3 * (j * d.1.1 + k) + o) u) (3 * (j * d.1.1 + k) + (d.2.1 j - 1)) _ (3 * r + q) ≤ 27720
  by_cases e : 3 * r + q = 3 * (j * d.1.1 + k) + (d.2.1 j - 1)
  · rw [e, va_up_self]; exact hr
  · rw [va_up_ne _ _ e]
    by_cases e2 : 3 * r + q = 3 * (j * d.1.1 + k) + o
    · rw [e2, va_up_self]; exact hu
    · rw [va_up_ne _ _ e2]; exact h6 r hr' q hq
section SH4
variable {l : Launch} {D : va_G} {ca : Nat → ClassId}
theorem c_Sh_crush {m : jm_M} {ad : Nat → Nat} {c : CSt} (h : CI m ad c) (x y t : Int32) (a b : Int64) : jm_C l D ca n_Sh_crush [.ref (ad 0), .int x, .int y, .int t, .long a, .long b] m 0 0 (fun v m' => (v = some (.int 1) ∧ (((0 ≤ x.toInt ∧ x.toInt < (c.1.1.2.1 : Int)) ∧ 0 ≤ y.toInt ∧ y.toInt < (c.1.1.1 : Int)) ∧ (0 ≤ t.toInt ∧ t.toInt < (c.1.1.1 : Int)) ∧ y ≠ t ∧ isSh a b) ∧ FRa ad m m' ∧ CI m' ad (dCrush c.1 (x.toInt.toNat * c.1.1.1 + y.toInt.toNat) (unS a b) t.toInt.toNat, c.2.1, c.2.2.1, c.2.2.2.1, false, c.2.2.2.2.2.1, c.2.2.2.2.2.2)) ∨ (v = some (.int 0) ∧ ¬ (((0 ≤ x.toInt ∧ x.toInt < (c.1.1.2.1 : Int)) ∧ 0 ≤ y.toInt ∧ y.toInt < (c.1.1.1 : Int)) ∧ (0 ≤ t.toInt ∧ t.toInt < (c.1.1.1 : Int)) ∧ y ≠ t ∧ isSh a b) ∧ m' = m)) := by
  refine jm_C_of (cd := cd_Sh_crush) (ini := false) (by decide +kernel) ok_Sh_crush (fun h => by cases h) (Nat.le_of_ble_eq_true rfl) ?_
  intro X hX
  have S := h.1
  have L := h.2.1
  have hO := h.2.2.1
  have o0 : ∀ {m' : jm_M}, SST m' ad → jm_ok m' (ad 0) 5 := fun S => S.ok 0 (Or.inl (by decide))
  have o1 : ∀ {m' : jm_M}, SST m' ad → jm_ok m' (ad 1) 2 := fun S => S.ok 1 (Or.inl (by decide))
  have r1 : ∀ {m' : jm_M}, SST m' ad → m'.2.2.2.2 (ad 0) 0 = some (ad 1) := fun S => S.2.2.1 (0, 0, 1) (by decide)
  have o8 : jm_ok m (ad 8) 50 := S.ok 8 (Or.inl (by decide))
  have r8 : m.2.2.2.2 (ad 1) 6 = some (ad 8) := S.2.2.1 (1, 6, 8) (by decide)
  have l8 : (m.2.1 (ad 8)).2 = 9 := S.len 8 (Or.inl (by decide))
  have o9 : jm_ok m (ad 9) 50 := S.ok 9 (Or.inl (by decide))
  have r9 : m.2.2.2.2 (ad 1) 7 = some (ad 9) := S.2.2.1 (1, 7, 9) (by decide)
  have l9 : (m.2.1 (ad 9)).2 = 9 := S.len 9 (Or.inl (by decide))
  have hK := hO.1
  have hM := hO.2.1
  refine jm_run hX [(42, [0, 1, 2, 3, 4, 6])] 40 ?_
  refine And.intro (o0 S) ⟨some (ad 1), r1 S, ?_⟩
  refine And.intro (o1 S) (And.intro (Nat.le_of_ble_eq_true rfl) (And.intro (Nat.le_of_ble_eq_true rfl) ⟨0, 0, _, Nat.le_refl _, Nat.le_refl _, c_Ln_hasRow S L hO x y, fun v m' hq => ?_⟩))
  obtain ⟨ee, rfl⟩ := hq
  have ee := ee.symm
  subst ee
  by_cases h1 : (0 ≤ x.toInt ∧ x.toInt < (c.1.1.2.1 : Int)) ∧ 0 ≤ y.toInt ∧ y.toInt < (c.1.1.1 : Int)
  · rw [if_pos h1]
    refine And.intro (fun q => absurd q (by decide)) (fun _ => ?_)
    refine And.intro (o0 S) ⟨some (ad 1), r1 S, ?_⟩
    refine And.intro (o1 S) (And.intro (Nat.le_of_ble_eq_true rfl) (And.intro (Nat.le_of_ble_eq_true rfl) ⟨0, 0, _, Nat.le_refl _, Nat.le_refl _, c_Ln_hasKind S L (by omega) t, fun v m' hq => ?_⟩))
    obtain ⟨ee, rfl⟩ := hq
    have ee := ee.symm
    subst ee
    by_cases h2 : 0 ≤ t.toInt ∧ t.toInt < (c.1.1.1 : Int)
    · rw [if_pos h2]
      refine And.intro (fun q => absurd q (by decide)) (fun _ => ?_)
      refine And.intro (fun g => ?_) (fun g => ?_)
      · have g : y = t := g
        exact ⟨Nat.le_refl _, Nat.le_refl _, Or.inl rfl, Or.inr ⟨rfl, fun q => q.2.2.1 g, rfl⟩⟩
      have g : ¬ y = t := g
      refine ⟨Nat.le_of_ble_eq_true rfl, Nat.le_of_ble_eq_true rfl, 0, 0, _, Nat.le_refl _, Nat.le_refl _, c_Sh_isShare a b, fun v m' hq => ?_⟩
      obtain ⟨ee, rfl⟩ := hq
      have ee := ee.symm
      subst ee
      by_cases h3 : (1 ≤ b.toInt ∧ b.toInt ≤ 12) ∧ 0 ≤ a.toInt ∧ a.toInt ≤ b.toInt
      · rw [if_pos h3]
        refine And.intro (fun q => absurd q (by decide)) (fun _ => ?_)
        have ex : x = nI x.toInt.toNat := i_of h1.1.1
        have ey : y = nI y.toInt.toNat := i_of h1.2.1
        have et : t = nI t.toInt.toNat := i_of h2.1
        have ea : a = lN a.toInt.toNat := l_of (by omega)
        have eb : b = lN b.toInt.toNat := l_of (by omega)
        have hrow := row_lt (M := c.1.1.2.1) (j := x.toInt.toNat) (k := y.toInt.toNat) hK.2 hM (by omega) (by omega)
        have key0 := c_Ln_row (l := l) (D := D) (ca := ca) (j := x.toInt.toNat) (k := y.toInt.toNat) S L
        rw [← ex, ← ey] at key0
        have key1 := c_Sh_inUnits (l := l) (D := D) (ca := ca) (m := m) (a := a.toInt.toNat) (b := b.toInt.toNat) (by omega) (by omega)
        rw [← ea, ← eb] at key1
        have hun : a.toInt.toNat * (27720 / b.toInt.toNat) = unS a b := rfl
        rw [hun] at key1
        have hul : unS a b ≤ 27720 := unS_le h3
        generalize hrr : x.toInt.toNat * c.1.1.1 + y.toInt.toNat = rr at *
        have key : X 42 [(0, .ref (ad 0)), (1, .int x), (2, .int y), (3, .int t), (4, .long a), (6, .long b)] [] m 0 0 := by
          refine jm_run hX [] 40 ?_
          refine And.intro (o0 S) ⟨some (ad 1), r1 S, ?_⟩
          refine And.intro (o1 S) (And.intro (Nat.le_of_ble_eq_true rfl) (And.intro (Nat.le_of_ble_eq_true rfl) ⟨0, 0, _, Nat.le_refl _, Nat.le_refl _, key0, fun v m' hq => ?_⟩))
          obtain ⟨ee, rfl⟩ := hq
          have ee := ee.symm
          subst ee
          refine And.intro (o0 S) ⟨some (ad 1), r1 S, And.intro (o1 S) ⟨some (ad 8), r8, ?_⟩⟩
          refine ⟨Nat.le_of_ble_eq_true rfl, Nat.le_of_ble_eq_true rfl, 0, 0, _, Nat.le_refl _, Nat.le_refl _, key1, fun v m' hq => ?_⟩
          obtain ⟨ee, rfl⟩ := hq
          have ee := ee.symm
          subst ee
          refine And.intro o8 (And.intro (vin_of l8 hrow (by decide)) ?_)
          refine And.intro (o0 S) ⟨some (ad 1), r1 S, And.intro (o1 S) ⟨some (ad 9), r9, And.intro o9 (And.intro (vin_of l9 hrow (by decide)) ?_)⟩⟩
          refine And.intro (o0 S) (And.intro (Or.inl rfl) ?_)
          refine ⟨Nat.le_refl _, Nat.le_refl _, Or.inr rfl, Or.inl ⟨rfl, ⟨h1, h2, g, h3⟩, ?_⟩⟩
          have hR : FRs ad (fun k => k = 0 ∨ k = 8 ∨ k = 9) m (uI (uI (uI m (ad 8) (nI rr).toNatClampNeg (nI (unS a b))) (ad 9) (nI rr).toNatClampNeg t) (ad 0) 3 0) := ((FRs.uI (i := 8) (Or.inl (by decide)) (Or.inr (Or.inl rfl))).tr (FRs.uI (i := 9) (Or.inl (by decide)) (Or.inr (Or.inr rfl)))).tr (FRs.uI (i := 0) (Or.inl (by decide)) (Or.inl rfl))
          refine ⟨hR.a, h.ln hR (fun k q => by omega) (L.one S hR rfl (by omega) (fun q => by omega) (fun _ => rfl) (fun q => by omega) (fun _ => rfl) (fun q => by omega) (fun _ => rfl) (fun _ => ?_) (fun q => by omega) (fun _ => ?_) (fun q => by omega) (fun q => by omega) (fun _ => rfl)) (hO.crush hul (by omega)) rfl ?_⟩
          · show va_up (va_up (va_up m.2.2.1 (ad 8) (va_up (m.2.2.1 (ad 8)) (nI rr).toNatClampNeg (nI (unS a b)))) (ad 9) _) (ad 0) _ (ad 8) = _
            rw [va_up_ne _ _ (S.ne (Or.inl (by decide)) (Or.inl (by decide)) (by decide)), va_up_ne _ _ (S.ne (Or.inl (by decide)) (Or.inl (by decide)) (by decide)), va_up_self, L.2.2.2.2.2.2.1, nI_c (by omega), nIf_up]
            rfl
          · show va_up (va_up (va_up m.2.2.1 (ad 8) (va_up (m.2.2.1 (ad 8)) (nI rr).toNatClampNeg (nI (unS a b)))) (ad 9) (va_up (va_up m.2.2.1 (ad 8) (va_up (m.2.2.1 (ad 8)) (nI rr).toNatClampNeg (nI (unS a b))) (ad 9)) (nI rr).toNatClampNeg t)) (ad 0) _ (ad 9) = _
            rw [va_up_ne _ _ (S.ne (Or.inl (by decide)) (Or.inl (by decide)) (by decide)), va_up_self, va_up_ne _ _ (S.ne (Or.inl (by decide)) (Or.inl (by decide)) (by decide)), L.2.2.2.2.2.2.2.1, nI_c (by omega), et, nIf_up, ← et]
            rfl
          · show va_up _ (ad 0) (va_up _ 3 0) (ad 0) 3 = _
            rw [va_up_self, va_up_self]; rfl
        exact key
      · rw [if_neg h3]
        refine And.intro (fun _ => ?_) (fun q => absurd rfl q)
        exact ⟨Nat.le_refl _, Nat.le_refl _, Or.inl rfl, Or.inr ⟨rfl, fun q => h3 q.2.2.2, rfl⟩⟩
    · rw [if_neg h2]
      refine And.intro (fun _ => ?_) (fun q => absurd rfl q)
      exact ⟨Nat.le_refl _, Nat.le_refl _, Or.inl rfl, Or.inr ⟨rfl, fun q => h2 q.2.1, rfl⟩⟩
  · rw [if_neg h1]
    refine And.intro (fun _ => ?_) (fun q => absurd rfl q)
    exact ⟨Nat.le_refl _, Nat.le_refl _, Or.inl rfl, Or.inr ⟨rfl, fun q => h1 q.1, rfl⟩⟩
/-- share and change: what is told -/
def shT (d : LD) (x y z : Int32) (a b : Int64) : Prop := ((0 ≤ x.toInt ∧ x.toInt < (d.1.2.1 : Int)) ∧ (0 ≤ y.toInt ∧ y.toInt < (d.1.1 : Int)) ∧ 0 ≤ z.toInt ∧ z.toInt + 1 < (d.2.1 x.toInt.toNat : Int)) ∧ isSh a b ∧ unS a b ≤ d.2.2.2.1 (3 * (x.toInt.toNat * d.1.1 + y.toInt.toNat) + (d.2.1 x.toInt.toNat - 1)) + d.2.2.2.1 (3 * (x.toInt.toNat * d.1.1 + y.toInt.toNat) + z.toInt.toNat)
/-- the shares of a row are 1 together -/
def shSum (d : LD) : Prop := ∀ j k o, j < d.1.2.1 → k < d.1.1 → o + 1 < d.2.1 j → d.2.2.2.1 (3 * (j * d.1.1 + k) + (d.2.1 j - 1)) + d.2.2.2.1 (3 * (j * d.1.1 + k) + o) ≤ 27720
theorem c_Sh_tellShare {m : jm_M} {ad : Nat → Nat} {c : CSt} (h : CI m ad c) (hS : shSum c.1) (x y z : Int32) (a b : Int64) : jm_C l D ca n_Sh_tellShare [.ref (ad 0), .int x, .int y, .int z, .long a, .long b] m 0 0 (fun v m' => (v = some (.int 1) ∧ shT c.1 x y z a b ∧ FRa ad m m' ∧ CI m' ad (dShare c.1 x.toInt.toNat y.toInt.toNat z.toInt.toNat (unS a b), c.2.1, c.2.2.1, c.2.2.2.1, false, c.2.2.2.2.2.1, c.2.2.2.2.2.2)) ∨ (v = some (.int 0) ∧ ¬ shT c.1 x y z a b ∧ m' = m)) := by
  refine jm_C_of (cd := cd_Sh_tellShare) (ini := false) (by decide +kernel) ok_Sh_tellShare (fun h => by cases h) (Nat.le_of_ble_eq_true rfl) ?_
  intro X hX
  have S := h.1
  have L := h.2.1
  have hO := h.2.2.1
  have o0 : ∀ {m' : jm_M}, SST m' ad → jm_ok m' (ad 0) 5 := fun S => S.ok 0 (Or.inl (by decide))
  have o1 : ∀ {m' : jm_M}, SST m' ad → jm_ok m' (ad 1) 2 := fun S => S.ok 1 (Or.inl (by decide))
  have r1 : ∀ {m' : jm_M}, SST m' ad → m'.2.2.2.2 (ad 0) 0 = some (ad 1) := fun S => S.2.2.1 (0, 0, 1) (by decide)
  have hK := hO.1
  have hM := hO.2.1
  refine jm_run hX [(25, [0, 1, 2, 3, 4, 6])] 40 ?_
  refine And.intro (o0 S) ⟨some (ad 1), r1 S, ?_⟩
  refine And.intro (o1 S) (And.intro (Nat.le_of_ble_eq_true rfl) (And.intro (Nat.le_of_ble_eq_true rfl) ⟨0, 0, _, Nat.le_refl _, Nat.le_refl _, c_Ln_hasSharedOut S L hO x y z, fun v m' hq => ?_⟩))
  obtain ⟨ee, rfl⟩ := hq
  have ee := ee.symm
  subst ee
  by_cases h1 : (0 ≤ x.toInt ∧ x.toInt < (c.1.1.2.1 : Int)) ∧ (0 ≤ y.toInt ∧ y.toInt < (c.1.1.1 : Int)) ∧ 0 ≤ z.toInt ∧ z.toInt + 1 < (c.1.2.1 x.toInt.toNat : Int)
  · rw [if_pos h1]
    refine And.intro (fun q => absurd q (by decide)) (fun _ => ?_)
    refine ⟨Nat.le_of_ble_eq_true rfl, Nat.le_of_ble_eq_true rfl, 0, 0, _, Nat.le_refl _, Nat.le_refl _, c_Sh_isShare a b, fun v m' hq => ?_⟩
    obtain ⟨ee, rfl⟩ := hq
    have ee := ee.symm
    subst ee
    by_cases h3 : (1 ≤ b.toInt ∧ b.toInt ≤ 12) ∧ 0 ≤ a.toInt ∧ a.toInt ≤ b.toInt
    · rw [if_pos h3]
      refine And.intro (fun q => absurd q (by decide)) (fun _ => ?_)
      have ex : x = nI x.toInt.toNat := i_of h1.1.1
      have ey : y = nI y.toInt.toNat := i_of h1.2.1.1
      have ez : z = nI z.toInt.toNat := i_of h1.2.2.1
      have ea : a = lN a.toInt.toNat := l_of (by omega)
      have eb : b = lN b.toInt.toNat := l_of (by omega)
      have key1 := c_Sh_inUnits (l := l) (D := D) (ca := ca) (m := m) (a := a.toInt.toNat) (b := b.toInt.toNat) (by omega) (by omega)
      rw [← ea, ← eb] at key1
      have hun : a.toInt.toNat * (27720 / b.toInt.toNat) = unS a b := rfl
      rw [hun] at key1
      have hul : unS a b ≤ 27720 := unS_le h3
      have hSs := hS x.toInt.toNat y.toInt.toNat z.toInt.toNat (by omega) (by omega) (by omega)
      have key2 := c_Ln_setShare (l := l) (D := D) (ca := ca) (j := x.toInt.toNat) (k := y.toInt.toNat) (o := z.toInt.toNat) (u := unS a b) S L hO (by omega) (by omega) (by omega) hul
      rw [← ex, ← ey, ← ez] at key2
      have key : X 25 [(0, .ref (ad 0)), (1, .int x), (2, .int y), (3, .int z), (4, .long a), (6, .long b)] [] m 0 0 := by
        have tail : ∀ m2, FRs ad (fun k => k = 7) m m2 → LnV m2 ad (dShare c.1 x.toInt.toNat y.toInt.toNat z.toInt.toNat (unS a b)) → shT c.1 x y z a b → X 47 [(0, .ref (ad 0))] [] m2 0 0 := by
          intro m2 hR2 L2 hT
          have S2 := hR2.S S
          refine jm_run hX [] 20 ?_
          refine And.intro (o0 S2) (And.intro (Or.inl rfl) ?_)
          refine ⟨Nat.le_refl _, Nat.le_refl _, Or.inr rfl, Or.inl ⟨rfl, hT, ?_⟩⟩
          have hR0 : FRs ad (fun k => k = 0) m2 (uI m2 (ad 0) 3 0) := FRs.uI (i := 0) (Or.inl (by decide)) rfl
          have hR : FRs ad (fun k => k = 0 ∨ k = 7) m (uI m2 (ad 0) 3 0) := (hR2.mo (fun k q => Or.inr q)).tr (hR0.mo (fun k q => Or.inl q))
          refine ⟨hR.a, h.ln hR (fun k q => by omega) (hR0.L S2 (fun k _ q => by omega) L2) (hO.shr hul (by omega)) rfl ?_⟩
          show va_up _ (ad 0) (va_up _ 3 0) (ad 0) 3 = _
          rw [va_up_self, va_up_self]; rfl
        refine jm_run hX [(47, [0])] 40 ?_
        refine And.intro (o0 S) ⟨some (ad 1), r1 S, ?_⟩
        refine ⟨Nat.le_of_ble_eq_true rfl, Nat.le_of_ble_eq_true rfl, 0, 0, _, Nat.le_refl _, Nat.le_refl _, key1, fun v m' hq => ?_⟩
        obtain ⟨ee, rfl⟩ := hq
        have ee := ee.symm
        subst ee
        refine And.intro (o1 S) (And.intro (Nat.le_of_ble_eq_true rfl) (And.intro (Nat.le_of_ble_eq_true rfl) ⟨0, 0, _, Nat.le_refl _, Nat.le_refl _, key2, fun v m2 hq => ?_⟩))
        rcases hq with ⟨hle, rfl, hR2, L2⟩ | ⟨hle, rfl, ee⟩
        · refine And.intro (fun q => absurd q (by decide)) (fun _ => ?_)
          exact tail m2 hR2 L2 ⟨h1, h3, hle⟩
        · have ee := ee.symm
          subst ee
          refine And.intro (fun _ => ?_) (fun q => absurd rfl q)
          exact ⟨Nat.le_refl _, Nat.le_refl _, Or.inl rfl, Or.inr ⟨rfl, fun q => hle q.2.2, rfl⟩⟩
      exact key
    · rw [if_neg h3]
      refine And.intro (fun _ => ?_) (fun q => absurd rfl q)
      exact ⟨Nat.le_refl _, Nat.le_refl _, Or.inl rfl, Or.inr ⟨rfl, fun q => h3 q.2.1, rfl⟩⟩
  · rw [if_neg h1]
    refine And.intro (fun _ => ?_) (fun q => absurd rfl q)
    exact ⟨Nat.le_refl _, Nat.le_refl _, Or.inl rfl, Or.inr ⟨rfl, fun q => h1 q.1, rfl⟩⟩
theorem c_Sh_share {m : jm_M} {ad : Nat → Nat} {c : CSt} (h : CI m ad c) (hS : shSum c.1) (x y z : Int32) (a b : Int64) : jm_C l D ca n_Sh_share [.ref (ad 0), .int x, .int y, .int z, .long a, .long b] m 0 0 (fun v m' => (v = some (.int 1) ∧ shT c.1 x y z a b ∧ FRa ad m m' ∧ CI m' ad (dShare c.1 x.toInt.toNat y.toInt.toNat z.toInt.toNat (unS a b), c.2.1, c.2.2.1, c.2.2.2.1, false, c.2.2.2.2.2.1, c.2.2.2.2.2.2)) ∨ (v = some (.int 0) ∧ ¬ shT c.1 x y z a b ∧ m' = m)) := by
  refine jm_C_of (cd := cd_Sh_share) (ini := false) (by decide +kernel) ok_Sh_share (fun h => by cases h) (Nat.le_of_ble_eq_true rfl) ?_
  intro X hX
  have o0 : jm_ok m (ad 0) 5 := h.1.ok 0 (Or.inl (by decide))
  refine jm_run hX [] 20 ?_
  refine And.intro o0 (And.intro (Nat.le_of_ble_eq_true rfl) (And.intro (Nat.le_of_ble_eq_true rfl) ⟨0, 0, _, Nat.le_refl _, Nat.le_refl _, c_Sh_tellShare h hS x y z a b, fun v m2 hq => ?_⟩))
  rcases hq with ⟨rfl, q1, q2, q3⟩ | ⟨rfl, q1, q2⟩
  · exact ⟨Nat.le_refl _, Nat.le_refl _, Or.inr rfl, Or.inl ⟨rfl, q1, q2, q3⟩⟩
  · exact ⟨Nat.le_refl _, Nat.le_refl _, Or.inl rfl, Or.inr ⟨rfl, q1, q2⟩⟩
end SH4
