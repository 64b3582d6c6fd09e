/-- less than so many grams come to port 0 -/
def shortF (d : LD) (F : Nat → Nat → Nat) (k g : Nat) : Prop := amz F (zs F (d.1.2.1 * d.1.1) (f0 d) 0) (0 * d.1.1 + k) (d.1.2.1 * d.1.1) < g * dt F (d.1.2.1 * d.1.1) (f0 d)
def brg (d : LD) (k g : Nat) : Prop := stands d ∧ ∃ F, RA d F (d.1.2.1 * d.1.1) ∧ FG (d.1.2.1 * d.1.1) F ∧ ¬ shortF d F k g
def nbrg (d : LD) (k g : Nat) : Prop := ¬ stands d ∨ ∃ F, RA d F (d.1.2.1 * d.1.1) ∧ FG (d.1.2.1 * d.1.1) F ∧ shortF d F k g
section SH11
variable {l : Launch} {D : va_G} {ca : Nat → ClassId}
theorem c_Sh_brings {m : jm_M} {ad : Nat → Nat} {c : CSt} {k g : Nat} (h : CI m ad c) (hB : LB c.1) (hFG : stands c.1 → ∀ F, RA c.1 F (c.1.1.2.1 * c.1.1.1) → FG (c.1.1.2.1 * c.1.1.1) F) (hk : k < c.1.1.1) (hg : g ≤ 1000000000) : jm_C l D ca n_Sh_bringsToPortZero [.ref (ad 0), .int (nI k), .long (lN g)] m 0 0 (fun v m' => FRa ad m m' ∧ CI m' ad c ∧ ((v = some (.int 0) ∧ nbrg c.1 k g) ∨ (v = some (.int 1) ∧ brg c.1 k g ∧ ∃ F V, solV m' ad c.1 F V))) := by
  refine jm_C_of (cd := cd_Sh_bringsToPortZero) (ini := false) (by decide +kernel) ok_Sh_bringsToPortZero (fun h => by cases h) (Nat.le_of_ble_eq_true rfl) ?_
  intro X hX
  have hO := h.2.2.1
  have hK := hO.1
  have hM := hO.2.1
  have hn9 : c.1.1.2.1 * c.1.1.1 ≤ 9 := Nat.mul_le_mul hO.2.1 hO.1.2
  have o0 : ∀ {m' : jm_M}, SST m' ad → jm_ok m' (ad 0) 5 := fun S => S.ok 0 (Or.inl (by decide))
  have o1 : ∀ {m' : jm_M}, SST m' ad → jm_ok m' (ad 1) 2 := fun S => S.ok 1 (Or.inl (by decide))
  have o2 : ∀ {m' : jm_M}, SST m' ad → jm_ok m' (ad 2) 1 := fun S => S.ok 2 (Or.inl (by decide))
  have r1 : ∀ {m' : jm_M}, SST m' ad → m'.2.2.2.2 (ad 0) 0 = some (ad 1) := fun S => S.2.2.1 (0, 0, 1) (by decide)
  have r2 : ∀ {m' : jm_M}, SST m' ad → m'.2.2.2.2 (ad 0) 1 = some (ad 2) := fun S => S.2.2.1 (0, 1, 2) (by decide)
  have key := c_Ln_firstStuck (l := l) (D := D) (ca := ca) h.1 h.2.1 hO h.2.2.2.1
  refine jm_run hX [(11, [0]), (13, [0, 1, 2])] 20 ?_
  refine And.intro (o0 h.1) ⟨some (ad 1), r1 h.1, ?_⟩
  refine And.intro (o1 h.1) (And.intro (Nat.le_of_ble_eq_true rfl) (And.intro (Nat.le_of_ble_eq_true rfl) ⟨0, 0, _, Nat.le_refl _, Nat.le_refl _, key, fun v m1 hq => ?_⟩))
  obtain ⟨em, r, rfl, hfs⟩ := hq
  have h1 := h.go em
  have hR1 : FRa ad m m1 := by rw [em]; exact (FRs.uA (p := fun k => k = 14) (i := 14) (Or.inl (by decide)) rfl).a
  clear em
  rcases hfs with ⟨j, hj, er, hst, _⟩ | ⟨er, hst⟩
  · subst er
    have kk : X 11 [(0, .ref (ad 0))] [] m1 0 0 := by
      refine jm_run hX [] 10 ?_
      exact ⟨Nat.le_refl _, Nat.le_refl _, Or.inl rfl, hR1, h1, Or.inl ⟨rfl, Or.inl (fun q => q j hj hst)⟩⟩
    refine And.intro (fun g => ?_) (fun _ => kk)
    exact absurd g (nI_ne_m1 (by omega))
  · subst er
    have kk : X 13 [(0, .ref (ad 0)), (1, .int (nI k)), (2, .long (lN g))] [] m1 0 0 := by
      have S1 := h1.1
      have L1 := h1.2.1
      obtain ⟨V, hW, hKn⟩ := h1.2.2.2.2.2.2.2.2.2
      obtain ⟨F, hF⟩ := FlV_ex m1 ad
      have krl := c_Fl_readLine (l := l) (D := D) (ca := ca) S1 L1 hO hB hF hW
      refine jm_run hX [] 30 ?_
      refine And.intro (o0 S1) ⟨some (ad 2), r2 S1, ?_⟩
      refine And.intro (o2 S1) (And.intro (Nat.le_of_ble_eq_true rfl) (And.intro (Nat.le_of_ble_eq_true rfl) ⟨0, 0, _, Nat.le_refl _, Nat.le_refl _, krl, fun v m2 hq => ?_⟩))
      obtain ⟨rfl, hR2, hs2, F', V2, hF2, hA2, hW2, hhi2, hro2⟩ := hq
      have S2 := hR2.S S1
      have hG := hFG hst F' hA2
      have kel := w_elim (l := l) (D := D) (ca := ca) S2 hO hB hF2 hA2 hG hW2 hs2 hro2
      refine And.intro (o0 S2) ⟨some (ad 2), r2 S2, ?_⟩
      refine And.intro (o2 S2) (And.intro (Nat.le_of_ble_eq_true rfl) (And.intro (Nat.le_of_ble_eq_true rfl) ⟨0, 0, _, Nat.le_refl _, Nat.le_refl _, kel, fun v m3 hq => ?_⟩))
      obtain ⟨rfl, hR3, V3, hsol, hhi3⟩ := hq
      have S3 := hR3.S S2
      have hR23 : FRs ad fP m1 m3 := hR2.tr (FRs.W (fun k h _ => Or.inr (Or.inr h)) hR3)
      have h3 : CI m3 ad c := h1.wf hR23 fP_hi hKn hsol.2.2.2.1 (fun i i1 i2 => (hhi3 i (by omega) (by omega)).trans (hhi2 i (by omega)))
      have L3 := h3.2.1
      have hrow : 0 * c.1.1.1 + k < 9 := by omega
      have ea : amt F' V3 (0 * c.1.1.1 + k) (c.1.1.2.1 * c.1.1.1) (c.1.1.2.1 * c.1.1.1) = amz F' (zs F' (c.1.1.2.1 * c.1.1.1) (f0 c.1) 0) (0 * c.1.1.1 + k) (c.1.1.2.1 * c.1.1.1) := amt_z hsol.2.2.2.2.2.2
      have hdd := am_d (f := f0 c.1) hG hn9
      have hd8 : V3 108 ≤ 166320 ^ 9 := by
        rw [hsol.2.2.2.2.2.1]
        unfold dt
        have := hdd.2
        omega
      have kb := c_Fl_bringsAtLeast (l := l) (D := D) (ca := ca) (p := 0) (k := k) (g := g) S3 L3 hsol.1 hsol.2.2.2.1 hsol.2.2.2.2.1 hn9 hrow (fun i hi => by have := hG.2.1 _ (fk_l hrow) i hi; omega) (by
        rw [ea]
        refine Nat.lt_of_le_of_lt (Nat.le_trans (ds_nS_bd (c := 83160 * (166320 ^ 8 * 9000000)) (fun i hi => ?_)) (Nat.mul_le_mul_right _ hn9)) (show 9 * (83160 * (166320 ^ 8 * 9000000)) < wB ^ 13 by decide)
        exact Nat.mul_le_mul (hG.2.1 _ (fk_l hrow) i hi) (zs9 hO hG hi)) (by omega) (Nat.lt_of_le_of_lt (Nat.mul_le_mul hg hd8) (show 1000000000 * 166320 ^ 9 < wB ^ 13 by decide))
      rw [ea, hsol.2.2.2.2.2.1] at kb
      refine And.intro (o0 S3) ⟨some (ad 2), r2 S3, ?_⟩
      refine And.intro (o2 S3) (And.intro (Nat.le_of_ble_eq_true rfl) (And.intro (Nat.le_of_ble_eq_true rfl) ⟨0, 0, _, Nat.le_refl _, Nat.le_refl _, kb, fun v m4 hq => ?_⟩))
      obtain ⟨rfl, hR4, V4, hW4, hs4⟩ := hq
      obtain ⟨V3', hW3', hKn3⟩ := h3.2.2.2.2.2.2.2.2.2
      have hR24 : FRs ad fP m1 m4 := hR23.tr (FRs.W (fun k h _ => Or.inr (Or.inr h)) hR4)
      have h4 : CI m4 ad c := h1.wf hR24 fP_hi hKn hW4 (fun i i1 i2 => (hs4 i (by omega) (by omega)).trans ((hhi3 i (by omega) (by omega)).trans (hhi2 i (by omega))))
      by_cases hsh : amz F' (zs F' (c.1.1.2.1 * c.1.1.1) (f0 c.1) 0) (0 * c.1.1.1 + k) (c.1.1.2.1 * c.1.1.1) < g * dt F' (c.1.1.2.1 * c.1.1.1) (f0 c.1)
      · rw [if_pos hsh]
        exact ⟨Nat.le_refl _, Nat.le_refl _, Or.inl rfl, hR1.tr hR24.a, h4, Or.inl ⟨rfl, Or.inr ⟨F', hA2, hG, hsh⟩⟩⟩
      · rw [if_neg hsh]
        refine ⟨Nat.le_refl _, Nat.le_refl _, Or.inr rfl, hR1.tr hR24.a, h4, Or.inr ⟨rfl, ⟨hst, F', hA2, hG, hsh⟩, F', V4, hR4.F S3 hsol.1, hA2, hG, hW4, ?_, ?_, fun i hi => ?_⟩⟩
        · rw [hR4.I S3 (by decide)]; exact hsol.2.2.2.2.1
        · rw [hs4 108 (by decide) (by decide)]; exact hsol.2.2.2.2.2.1
        · rw [hs4 _ (by omega) (by omega)]; exact hsol.2.2.2.2.2.2 i hi
    refine And.intro (fun _ => kk) (fun g => ?_)
    exact absurd rfl g
end SH11
/-- both shares of the told one and the last -/
def sh2 (d : LD) (j k : Nat) : Nat := d.2.2.2.1 (3 * (j * d.1.1 + k) + (d.2.1 j - 1)) + d.2.2.2.1 (3 * (j * d.1.1 + k) + 0)
theorem dShare_self {d : LD} {j k : Nat} (h : 2 ≤ d.2.1 j) : dShare d j k 0 (d.2.2.2.1 (3 * (j * d.1.1 + k) + 0)) = d := by
  unfold dShare
  have : va_up (va_up d.2.2.2.1 (3 * (j * d.1.1 + k) + 0) (d.2.2.2.1 (3 * (j * d.1.1 + k) + 0))) (3 * (j * d.1.1 + k) + (d.2.1 j - 1)) (d.2.2.2.1 (3 * (j * d.1.1 + k) + (d.2.1 j - 1)) + d.2.2.2.1 (3 * (j * d.1.1 + k) + 0) - d.2.2.2.1 (3 * (j * d.1.1 + k) + 0)) = d.2.2.2.1 := by
    funext i
    by_cases e : i = 3 * (j * d.1.1 + k) + (d.2.1 j - 1)
    · rw [e, va_up_self]; omega
    · rw [va_up_ne _ _ e]
      by_cases e2 : i = 3 * (j * d.1.1 + k) + 0
      · rw [e2, va_up_self]
      · rw [va_up_ne _ _ e2]
  rw [this]
theorem dShare_sh2 {d : LD} {j k u : Nat} (h : 2 ≤ d.2.1 j) (hu : u ≤ sh2 d j k) : sh2 (dShare d j k 0 u) j k = sh2 d j k := by
  unfold sh2 at hu ⊢
  show va_up (va_up d.2.2.2.1 (3 * (j * d.1.1 + k) + 0) u) (3 * (j * d.1.1 + k) + (d.2.1 j - 1)) _ (3 * (j * d.1.1 + k) + (d.2.1 j - 1)) + va_up (va_up d.2.2.2.1 (3 * (j * d.1.1 + k) + 0) u) (3 * (j * d.1.1 + k) + (d.2.1 j - 1)) _ (3 * (j * d.1.1 + k) + 0) = _
  rw [va_up_self, va_up_ne _ _ (show 3 * (j * d.1.1 + k) + 0 ≠ 3 * (j * d.1.1 + k) + (d.2.1 j - 1) by omega), va_up_self]
  omega
theorem dShare_two {d : LD} {j k u w : Nat} (h : 2 ≤ d.2.1 j) (hu : u ≤ sh2 d j k) : dShare (dShare d j k 0 u) j k 0 w = dShare d j k 0 w := by
  have h2 := dShare_sh2 h hu
  have key : (dShare (dShare d j k 0 u) j k 0 w).2.2.2.1 = (dShare d j k 0 w).2.2.2.1 := by
    funext i
    show va_up (va_up (dShare d j k 0 u).2.2.2.1 (3 * (j * d.1.1 + k) + 0) w) (3 * (j * d.1.1 + k) + (d.2.1 j - 1)) (sh2 (dShare d j k 0 u) j k - w) i = va_up (va_up d.2.2.2.1 (3 * (j * d.1.1 + k) + 0) w) (3 * (j * d.1.1 + k) + (d.2.1 j - 1)) (sh2 d j k - w) i
    rw [h2]
    by_cases e : i = 3 * (j * d.1.1 + k) + (d.2.1 j - 1)
    · rw [e, va_up_self, va_up_self]
    · rw [va_up_ne _ _ e, va_up_ne _ _ e]
      by_cases e2 : i = 3 * (j * d.1.1 + k) + 0
      · rw [e2, va_up_self, va_up_self]
      · rw [va_up_ne _ _ e2, va_up_ne _ _ e2]
        show va_up (va_up d.2.2.2.1 (3 * (j * d.1.1 + k) + 0) u) (3 * (j * d.1.1 + k) + (d.2.1 j - 1)) _ i = _
        rw [va_up_ne _ _ e, va_up_ne _ _ e2]
  show (d.1, d.2.1, d.2.2.1, (dShare (dShare d j k 0 u) j k 0 w).2.2.2.1, d.2.2.2.2) = (d.1, d.2.1, d.2.2.1, (dShare d j k 0 w).2.2.2.1, d.2.2.2.2)
  rw [key]
/-- what find is told -/
def fiT (d : LD) (x y : Int32) (g : Int64) : Prop := ((0 ≤ x.toInt ∧ x.toInt < (d.1.2.1 : Int)) ∧ (0 ≤ y.toInt ∧ y.toInt < (d.1.1 : Int)) ∧ 2 ≤ d.2.1 x.toInt.toNat) ∧ 1 ≤ d.1.2.2 ∧ 0 ≤ g.toInt ∧ g.toInt ≤ 1000000000
def okF (d : LD) (j k g t : Nat) : Prop := t * 2310 ≤ sh2 d j k ∧ brg (dShare d j k 0 (t * 2310)) k g
def nokF (d : LD) (j k g t : Nat) : Prop := t * 2310 ≤ sh2 d j k → nbrg (dShare d j k 0 (t * 2310)) k g
/-- what find does -/
def findQ (ad : Nat → Nat) (m : jm_M) (c : CSt) (x y : Int32) (g : Int64) (v : Option Value) (m' : jm_M) : Prop :=
  (¬ fiT c.1 x y g ∧ v = some (.int (-1)) ∧ m' = m) ∨
  (fiT c.1 x y g ∧ FRa ad m m' ∧
    ((∃ t, t ≤ 12 ∧ v = some (.int (nI t)) ∧ okF c.1 x.toInt.toNat y.toInt.toNat g.toInt.toNat t ∧ (∀ s, s < t → nokF c.1 x.toInt.toNat y.toInt.toNat g.toInt.toNat s) ∧ CI m' ad (dShare c.1 x.toInt.toNat y.toInt.toNat 0 (t * 2310), c.2.1, c.2.2.1, c.2.2.2.1, true, true, dShare c.1 x.toInt.toNat y.toInt.toNat 0 (t * 2310))) ∨
     (v = some (.int (-1)) ∧ (∀ s, s ≤ 12 → nokF c.1 x.toInt.toNat y.toInt.toNat g.toInt.toNat s) ∧ CI m' ad c)))
section SH12
variable {l : Launch} {D : va_G} {ca : Nat → ClassId}
theorem c_Sh_find {m0 : jm_M} {ad : Nat → Nat} {c : CSt} (h0 : CI m0 ad c) (hS : shSum c.1) (x y : Int32) (g : Int64) (hB : fiT c.1 x y g → ∀ t, t ≤ 12 → t * 2310 ≤ sh2 c.1 x.toInt.toNat y.toInt.toNat → LB (dShare c.1 x.toInt.toNat y.toInt.toNat 0 (t * 2310))) (hFG : fiT c.1 x y g → ∀ t, t ≤ 12 → t * 2310 ≤ sh2 c.1 x.toInt.toNat y.toInt.toNat → stands (dShare c.1 x.toInt.toNat y.toInt.toNat 0 (t * 2310)) → ∀ F, RA (dShare c.1 x.toInt.toNat y.toInt.toNat 0 (t * 2310)) F (c.1.1.2.1 * c.1.1.1) → FG (c.1.1.2.1 * c.1.1.1) F) : jm_C l D ca n_Sh_find [.ref (ad 0), .int x, .int y, .long g] m0 0 0 (findQ ad m0 c x y g) := by
  refine jm_C_of (cd := cd_Sh_find) (ini := false) (by decide +kernel) ok_Sh_find (fun h => by cases h) (Nat.le_of_ble_eq_true rfl) ?_
  intro X hX
  have S := h0.1
  have L := h0.2.1
  have hO := h0.2.2.1
  have hK := hO.1
  have hM := hO.2.1
  have hP := hO.2.2.1
  have o0 : ∀ {m' : jm_M}, SST m' ad → jm_ok m' (ad 0) 5 := fun S => S.ok 0 (Or.inl (by decide))
  have o1 : ∀ {m' : jm_M}, SST m' ad → jm_ok m' (ad 1) 2 := fun S => S.ok 1 (Or.inl (by decide))
  have r1 : ∀ {m' : jm_M}, SST m' ad → m'.2.2.2.2 (ad 0) 0 = some (ad 1) := fun S => S.2.2.1 (0, 0, 1) (by decide)
  have e0 : (0 : Int64).toInt = 0 := by decide
  have e9 : (1000000000 : Int64).toInt = 1000000000 := by decide
  have ez0 : (0 : Int32).toInt = 0 := by decide
  have kso := c_Ln_hasSharedOut (l := l) (D := D) (ca := ca) S L hO x y 0
  rw [ez0] at kso
  refine jm_run hX [(42, [0, 1, 2, 3])] 40 ?_
  refine And.intro (o0 S) ⟨some (ad 1), r1 S, ?_⟩
  refine And.intro (o1 S) (And.intro (Nat.le_of_ble_eq_true rfl) (And.intro (Nat.le_of_ble_eq_true rfl) ⟨0, 0, _, Nat.le_refl _, Nat.le_refl _, kso, fun v m' hq => ?_⟩))
  obtain ⟨ee, rfl⟩ := hq
  have ee := ee.symm
  subst ee
  by_cases h1 : (0 ≤ x.toInt ∧ x.toInt < (c.1.1.2.1 : Int)) ∧ (0 ≤ y.toInt ∧ y.toInt < (c.1.1.1 : Int)) ∧ (0 : Int) ≤ 0 ∧ (0 : Int) + 1 < (c.1.2.1 x.toInt.toNat : Int)
  · rw [if_pos h1]
    refine And.intro (fun q => absurd q (by decide)) (fun _ => ?_)
    refine And.intro (o0 S) ⟨some (ad 1), r1 S, And.intro (o1 S) ?_⟩
    have t2 : ∀ P : Prop, P → P := fun _ p => p
    refine And.intro (fun q => ?_) (fun q => ?_)
    rotate_left 1
    · have q : ¬ nI 1 ≤ m0.2.2.1 (ad 1) 2 := q
      rw [L.2.2.1] at q
      refine ⟨Nat.le_refl _, Nat.le_refl _, trivial, Or.inl ⟨fun f => ?_, rfl, rfl⟩⟩
      exact q (nI_le (by have := f.2.1; omega) (by omega))
    have q : nI 1 ≤ m0.2.2.1 (ad 1) 2 := q
    rw [L.2.2.1] at q
    have hp1 : 1 ≤ c.1.1.2.2 := by
      rcases Nat.lt_or_ge c.1.1.2.2 1 with w | w
      · exact absurd q (nI_ge w (by omega))
      · exact w
    refine And.intro (fun g1 => ?_) (fun g1 => ?_)
    · have g1 : lg_cmp g 0 < 0 := g1
      rw [lg_cmp_lt, Int64.lt_iff_toInt_lt, e0] at g1
      exact ⟨Nat.le_refl _, Nat.le_refl _, trivial, Or.inl ⟨fun f => by have := f.2.2.1; omega, rfl, rfl⟩⟩
    have g1 : ¬ lg_cmp g 0 < 0 := g1
    rw [lg_cmp_lt, Int64.lt_iff_toInt_lt, e0] at g1
    refine And.intro (fun g2 => ?_) (fun g2 => ?_)
    rotate_left 1
    · have g2 : ¬ lg_cmp g 1000000000 ≤ 0 := g2
      rw [lg_cmp_le, Int64.le_iff_toInt_le, e9] at g2
      exact ⟨Nat.le_refl _, Nat.le_refl _, trivial, Or.inl ⟨fun f => g2 f.2.2.2, rfl, rfl⟩⟩
    have g2 : lg_cmp g 1000000000 ≤ 0 := g2
    rw [lg_cmp_le, Int64.le_iff_toInt_le, e9] at g2
    have hT : fiT c.1 x y g := ⟨⟨h1.1, h1.2.1, by omega⟩, hp1, by omega, g2⟩
    replace hB := hB hT
    replace hFG := hFG hT
    have ex : x = nI x.toInt.toNat := i_of h1.1.1
    have ey : y = nI y.toInt.toNat := i_of h1.2.1.1
    have eg : g = lN g.toInt.toNat := l_of (by omega)
    have hj : x.toInt.toNat < c.1.1.2.1 := by omega
    have hk : y.toInt.toNat < c.1.1.1 := by omega
    have hou : 2 ≤ c.1.2.1 x.toInt.toNat := hT.1.2.2
    have hg9 : g.toInt.toNat ≤ 1000000000 := by omega
    have hrow := row_lt hK.2 hM hj hk
    have hsum : sh2 c.1 x.toInt.toNat y.toInt.toNat ≤ 27720 := hS _ _ 0 hj hk (by omega)
    have kbe := c_Ln_shareOf (l := l) (D := D) (ca := ca) (o := 0) S L hrow (by decide)
    rw [← ex, ← ey] at kbe
    have hbe : c.1.2.2.2.1 (3 * (x.toInt.toNat * c.1.1.1 + y.toInt.toNat) + 0) ≤ sh2 c.1 x.toInt.toNat y.toInt.toNat := by unfold sh2; omega
    have hself := dShare_self (d := c.1) (k := y.toInt.toNat) hou
    have htwo : ∀ u w, u ≤ sh2 c.1 x.toInt.toNat y.toInt.toNat → dShare (dShare c.1 x.toInt.toNat y.toInt.toNat 0 u) x.toInt.toNat y.toInt.toNat 0 w = dShare c.1 x.toInt.toNat y.toInt.toNat 0 w := fun u w hu => dShare_two hou hu
    have hsh2 : ∀ u, u ≤ sh2 c.1 x.toInt.toNat y.toInt.toNat → sh2 (dShare c.1 x.toInt.toNat y.toInt.toNat 0 u) x.toInt.toNat y.toInt.toNat = sh2 c.1 x.toInt.toNat y.toInt.toNat := fun u hu => dShare_sh2 hou hu
    have hlok : ∀ u, u ≤ sh2 c.1 x.toInt.toNat y.toInt.toNat → LOK (dShare c.1 x.toInt.toNat y.toInt.toNat 0 u) := fun u hu => hO.shr (by omega) (by unfold sh2 at hsum; omega)
    have fin : ∀ v m', FRa ad m0 m' → ((∃ t, t ≤ 12 ∧ v = some (.int (nI t)) ∧ okF c.1 x.toInt.toNat y.toInt.toNat g.toInt.toNat t ∧ (∀ s, s < t → nokF c.1 x.toInt.toNat y.toInt.toNat g.toInt.toNat s) ∧ CI m' ad (dShare c.1 x.toInt.toNat y.toInt.toNat 0 (t * 2310), c.2.1, c.2.2.1, c.2.2.2.1, true, true, dShare c.1 x.toInt.toNat y.toInt.toNat 0 (t * 2310))) ∨
     (v = some (.int (-1)) ∧ (∀ s, s ≤ 12 → nokF c.1 x.toInt.toNat y.toInt.toNat g.toInt.toNat s) ∧ CI m' ad c)) → findQ ad m0 c x y g v m' := fun v m' a b => Or.inr ⟨hT, a, b⟩
    generalize hjj : x.toInt.toNat = j at *
    generalize hkk : y.toInt.toNat = k at *
    generalize hgg : g.toInt.toNat = gn at *
    generalize hbb : c.1.2.2.2.1 (3 * (j * c.1.1.1 + k) + 0) = be at *
    -- setShare over a line with share u
    have kset : ∀ (m : jm_M) (u w : Nat), u ≤ sh2 c.1 j k → w ≤ 27720 → CI m ad (dShare c.1 j k 0 u, c.2.1, c.2.2.1, c.2.2.2.1, c.2.2.2.2.1, c.2.2.2.2.2.1, c.2.2.2.2.2.2) → jm_C l D ca n_Ln_setShare [.ref (ad 1), .int x, .int y, .int 0, .int (nI w)] m 0 0 (fun v m' => (w ≤ sh2 c.1 j k ∧ v = some (.int 1) ∧ FRa ad m m' ∧ CI m' ad (dShare c.1 j k 0 w, c.2.1, c.2.2.1, c.2.2.2.1, c.2.2.2.2.1, c.2.2.2.2.2.1, c.2.2.2.2.2.2)) ∨ (¬ w ≤ sh2 c.1 j k ∧ v = some (.int 0) ∧ m' = m)) := by
      intro m u w hu hw hC
      have key := c_Ln_setShare (l := l) (D := D) (ca := ca) (j := j) (k := k) (o := 0) (u := w) hC.1 hC.2.1 hC.2.2.1 hj hk (by show 0 + 1 < c.1.2.1 j; omega) hw
      rw [← ex, ← ey] at key
      refine jm_C_mo key (fun v m' hq => ?_)
      rcases hq with ⟨hle, rfl, hR, L'⟩ | ⟨hle, rfl, ee⟩
      · have hle : w ≤ sh2 (dShare c.1 j k 0 u) j k := hle
        rw [hsh2 u hu] at hle
        rw [htwo u w hu] at L'
        refine Or.inl ⟨hle, rfl, hR.a, hC.ln hR (fun k q => by omega) L' (hlok w hle) rfl ?_⟩
        rw [(hR.at hC.1 (k := 0) (Or.inl (by decide)) (by decide)).1]
        exact hC.2.2.2.2.2.2.2.1
      · have hle : ¬ w ≤ sh2 (dShare c.1 j k 0 u) j k := hle
        rw [hsh2 u hu] at hle
        exact Or.inr ⟨hle, rfl, ee⟩
    have loop : ∀ (e t : Nat) (m : jm_M) (u : Nat), t + e = 13 → FRa ad m0 m → u ≤ sh2 c.1 j k → CI m ad (dShare c.1 j k 0 u, c.2.1, c.2.2.1, c.2.2.2.1, c.2.2.2.2.1, c.2.2.2.2.2.1, c.2.2.2.2.2.2) → (∀ s, s < t → nokF c.1 j k gn s) → X 57 [(0, .ref (ad 0)), (1, .int x), (2, .int y), (3, .long g), (5, .int (nI be)), (6, .int (nI t))] [] m 0 0 := by
      intro e
      induction e with
      | zero =>
        intro t m u ht hR hu hC hno
        refine jm_run hX [] 20 ?_
        refine And.intro (fun _ => ?_) (fun w => ?_)
        · refine And.intro (o0 hC.1) ⟨some (ad 1), r1 hC.1, ?_⟩
          refine And.intro (o1 hC.1) (And.intro (Nat.le_of_ble_eq_true rfl) (And.intro (Nat.le_of_ble_eq_true rfl) ⟨0, 0, _, Nat.le_refl _, Nat.le_refl _, kset m u be hu (by omega) hC, fun v m1 hq => ?_⟩))
          rcases hq with ⟨_, rfl, hR1, hC1⟩ | ⟨hle, _, _⟩
          · rw [hself] at hC1
            refine And.intro rfl ?_
            exact ⟨Nat.le_refl _, Nat.le_refl _, trivial, fin _ _ (hR.tr hR1) (Or.inr ⟨rfl, fun s hs => hno s (by omega), hC1⟩)⟩
          · exact absurd hbe hle
        · have w : ¬ nI 12 < nI t := w
          rw [iNlt (by decide), nI_toInt (by omega)] at w
          omega
      | succ e ih =>
        intro t m u ht hR hu hC hno
        have hw : t * 2310 ≤ 27720 := by omega
        have ks := kset m u (t * 2310) hu hw hC
        have kn : ∀ m' u', FRa ad m0 m' → u' ≤ sh2 c.1 j k → CI m' ad (dShare c.1 j k 0 u', c.2.1, c.2.2.1, c.2.2.2.1, c.2.2.2.2.1, c.2.2.2.2.2.1, c.2.2.2.2.2.2) → nokF c.1 j k gn t → X 57 [(0, .ref (ad 0)), (1, .int x), (2, .int y), (3, .long g), (5, .int (nI be)), (6, .int (nI t + 1))] [] m' 0 0 := fun m' u' a1 a2 a3 a4 => by
          rw [nI_1]
          refine ih (t + 1) m' u' (by omega) a1 a2 a3 (fun s hs => ?_)
          rcases Nat.lt_or_ge s t with w | w
          · exact hno s w
          · rw [show s = t by omega]; exact a4
        have k103 : ∀ m' u', FRa ad m0 m' → u' ≤ sh2 c.1 j k → CI m' ad (dShare c.1 j k 0 u', c.2.1, c.2.2.1, c.2.2.2.1, c.2.2.2.2.1, c.2.2.2.2.2.1, c.2.2.2.2.2.2) → nokF c.1 j k gn t → X 103 [(0, .ref (ad 0)), (1, .int x), (2, .int y), (3, .long g), (5, .int (nI be)), (6, .int (nI t))] [] m' 0 0 := fun m' u' a1 a2 a3 a4 => by
          refine jm_run hX [(57, [0, 1, 2, 3, 5, 6])] 5 ?_
          exact kn m' u' a1 a2 a3 a4
        refine jm_run hX [(96, [0, 6]), (103, [0, 1, 2, 3, 5, 6])] 40 ?_
        refine And.intro (fun w => ?_) (fun _ => ?_)
        · have w : nI 12 < nI t := w
          rw [iNlt (by decide), nI_toInt (by omega)] at w
          omega
        refine And.intro (o0 hC.1) ⟨some (ad 1), r1 hC.1, ?_⟩
        have emul : nI t * 2310 = nI (t * 2310) := pk_mul t 2310
        rw [emul]
        refine And.intro (o1 hC.1) (And.intro (Nat.le_of_ble_eq_true rfl) (And.intro (Nat.le_of_ble_eq_true rfl) ⟨0, 0, _, Nat.le_refl _, Nat.le_refl _, ks, fun v m1 hq => ?_⟩))
        rcases hq with ⟨hle, rfl, hR1, hC1⟩ | ⟨hle, rfl, ee⟩
        · refine And.intro (fun q => absurd q (by decide)) (fun _ => ?_)
          have kb := c_Sh_brings (l := l) (D := D) (ca := ca) (k := k) (g := gn) hC1 (hB t (by omega) hle) (hFG t (by omega) hle) hk hg9
          rw [← ey, ← eg] at kb
          refine And.intro (o0 hC1.1) (And.intro (Nat.le_of_ble_eq_true rfl) (And.intro (Nat.le_of_ble_eq_true rfl) ⟨0, 0, _, Nat.le_refl _, Nat.le_refl _, kb, fun v m2 hq => ?_⟩))
          obtain ⟨hR2, hC2, hq⟩ := hq
          rcases hq with ⟨rfl, hnb⟩ | ⟨rfl, hbr, F, V, hsol⟩
          · refine And.intro (fun _ => ?_) (fun q => absurd rfl q)
            exact k103 m2 (t * 2310) ((hR.tr hR1).tr hR2) hle hC2 (fun _ => hnb)
          · refine And.intro (fun q => absurd q (by decide)) (fun _ => ?_)
            have kt := c_Sh_takeSolution (l := l) (D := D) (ca := ca) hC2.c0 hsol
            have kk : X 96 [(0, .ref (ad 0)), (6, .int (nI t))] [] m2 0 0 := by
              refine jm_run hX [] 10 ?_
              refine And.intro (o0 hC2.1) (And.intro (Nat.le_of_ble_eq_true rfl) (And.intro (Nat.le_of_ble_eq_true rfl) ⟨0, 0, _, Nat.le_refl _, Nat.le_refl _, kt, fun v m3 hq => ?_⟩))
              obtain ⟨rfl, hR3, hC3⟩ := hq
              exact ⟨Nat.le_refl _, Nat.le_refl _, trivial, fin _ _ (((hR.tr hR1).tr hR2).tr hR3) (Or.inl ⟨t, by omega, rfl, ⟨hle, hbr⟩, hno, hC3⟩)⟩
            exact kk
        · subst ee
          refine And.intro (fun _ => ?_) (fun q => absurd rfl q)
          exact k103 _ u hR hu hC (fun q => absurd q hle)
    have kk : X 42 [(0, .ref (ad 0)), (1, .int x), (2, .int y), (3, .long g)] [] m0 0 0 := by
      refine jm_run hX [(57, [0, 1, 2, 3, 5, 6])] 20 ?_
      refine And.intro (o0 S) ⟨some (ad 1), r1 S, ?_⟩
      refine And.intro (o1 S) (And.intro (Nat.le_of_ble_eq_true rfl) (And.intro (Nat.le_of_ble_eq_true rfl) ⟨0, 0, _, Nat.le_refl _, Nat.le_refl _, kbe, fun v m' hq => ?_⟩))
      obtain ⟨ee, rfl⟩ := hq
      have ee := ee.symm
      subst ee
      refine loop 13 0 m0 be rfl FRs.rf hbe ?_ (fun s hs => absurd hs (by omega))
      rw [hself]; exact h0
    exact kk
  · rw [if_neg h1]
    refine And.intro (fun _ => ?_) (fun q => absurd rfl q)
    exact ⟨Nat.le_refl _, Nat.le_refl _, trivial, Or.inl ⟨fun f => h1 ⟨f.1.1, f.1.2.1, by omega, by have := f.1.2.2; omega⟩, rfl, rfl⟩⟩
end SH12
