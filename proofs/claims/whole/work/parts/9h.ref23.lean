section RB23
variable {l : Launch} {D : va_G} {ca : Nat → ClassId}
abbrev crR (R : RD) (x y t : Int32) (a b : Int64) : Prop := (isM R x ∧ isK R y) ∧ isK R t ∧ y ≠ t ∧ isSh a b
theorem c_Mo_crush {m : jm_M} {rd : Nat → Nat} {A : RSt} {n : Nat} (h : MI m rd A n) (x y t : Int32) (a b : Int64) : jm_C l D ca n_Mo_crush [.ref (rd 0), .int x, .int y, .int t, .long a, .long b] m 0 0 (fun v m' => (v = some (.int 1) ∧ crR A.1 x y t a b ∧ FMa rd m m' ∧ MI m' rd (rTold A (rCrush A.1 (3 * x.toInt.toNat + y.toInt.toNat) t.toInt.toNat a.toInt.toNat b.toInt.toNat)) (n + 1)) ∨ (v = some (.int 0) ∧ ¬ crR A.1 x y t a b ∧ m' = m)) := by
  refine jm_C_of (cd := cd_Mo_crush) (ini := false) (by decide +kernel) ok_Mo_crush (fun h => by cases h) (Nat.le_of_ble_eq_true rfl) ?_
  intro X hX
  have S := h.1
  have hV : MV m rd 0 A.1 := (h.2.1 0 (by decide)).1
  have hR : ROK A.1 := (h.2.1 0 (by decide)).2
  have hV1 : MV m rd 1 A.2.1 := (h.2.1 1 (by decide)).1
  have hM : A.1.M ≤ 3 := hR.2.1
  have hK : 1 ≤ A.1.K ∧ A.1.K ≤ 3 := hR.1
  have o0 : ∀ {m : jm_M}, MST m rd → jm_ok m (rd 0) 6 := fun S => S.ok (Or.inl (by decide))
  have k7 : mkin 7 := Or.inl (by decide)
  have k8 : mkin 8 := Or.inl (by decide)
  have k9 : mkin 9 := Or.inl (by decide)
  have no : ¬ crR A.1 x y t a b → X 39 [(0, .ref (rd 0)), (1, .int x), (2, .int y), (3, .int t), (4, .long a), (6, .long b)] [] m 0 0 := fun hn => by
    refine jm_run hX [] 5 ?_
    exact ⟨Nat.le_refl _, Nat.le_refl _, Or.inl rfl, Or.inr ⟨rfl, hn, rfl⟩⟩
  refine jm_run hX [(39, [0, 1, 2, 3, 4, 6]), (41, [0, 1, 2, 3, 4, 6])] 80 ?_
  refine And.intro (o0 S) (And.intro (Nat.le_of_ble_eq_true rfl) (And.intro (Nat.le_of_ble_eq_true rfl) ⟨0, 0, _, Nat.le_refl _, Nat.le_refl _, c_Mo_isMachine h x, fun v m' hq => ?_⟩))
  obtain ⟨ee, rfl⟩ := hq
  have ee := ee.symm
  subst ee
  by_cases h1 : isM A.1 x
  · rw [if_pos h1]
    refine And.intro (fun g => absurd g (by decide)) (fun _ => ?_)
    refine And.intro (o0 S) (And.intro (Nat.le_of_ble_eq_true rfl) (And.intro (Nat.le_of_ble_eq_true rfl) ⟨0, 0, _, Nat.le_refl _, Nat.le_refl _, c_Mo_isKind h y, fun v m' hq => ?_⟩))
    obtain ⟨ee, rfl⟩ := hq
    have ee := ee.symm
    subst ee
    by_cases h2 : isK A.1 y
    · rw [if_pos h2]
      refine And.intro (fun g => absurd g (by decide)) (fun _ => ?_)
      refine And.intro (o0 S) (And.intro (Nat.le_of_ble_eq_true rfl) (And.intro (Nat.le_of_ble_eq_true rfl) ⟨0, 0, _, Nat.le_refl _, Nat.le_refl _, c_Mo_isKind h t, fun v m' hq => ?_⟩))
      obtain ⟨ee, rfl⟩ := hq
      have ee := ee.symm
      subst ee
      by_cases h3 : isK A.1 t
      · rw [if_pos h3]
        refine And.intro (fun g => absurd g (by decide)) (fun _ => ?_)
        refine And.intro (fun g => no (fun z => z.2.2.1 g)) (fun g => ?_)
        refine And.intro (Nat.le_of_ble_eq_true rfl) (And.intro (Nat.le_of_ble_eq_true rfl) ⟨0, 0, _, Nat.le_refl _, Nat.le_refl _, c_Mo_isShare a b, fun v m' hq => ?_⟩)
        obtain ⟨ee, rfl⟩ := hq
        have ee := ee.symm
        subst ee
        by_cases h4 : (1 ≤ b.toInt ∧ b.toInt ≤ 12) ∧ 0 ≤ a.toInt ∧ a.toInt ≤ b.toInt
        · rw [if_pos h4]
          refine And.intro (fun g => absurd g (by decide)) (fun _ => ?_)
          have hall : crR A.1 x y t a b := ⟨⟨h1, h2⟩, h3, g, h4⟩
          have ex : x = nI x.toInt.toNat := i_of h1.1
          have ey : y = nI y.toInt.toNat := i_of h2.1
          have et : t = nI t.toInt.toNat := i_of h3.1
          have ea := (l2i (g := a) (M := 12) (by omega) (by omega)).1
          have eb := (l2i (g := b) (M := 12) (by omega) (by omega)).1
          have hx3 : x.toInt.toNat < 3 := by omega
          have hy3 : y.toInt.toNat < 3 := by omega
          have ht3 : t.toInt.toNat < A.1.K := by omega
          have hty : t.toInt.toNat ≠ y.toInt.toNat := fun z => g (by rw [ex] at *; rw [ey, et, z])
          have hb1 : 1 ≤ b.toInt.toNat ∧ b.toInt.toNat ≤ 12 := by omega
          have ha1 : a.toInt.toNat ≤ b.toInt.toNat := by omega
          have hRc := hR.crush (j := x.toInt.toNat) (k := y.toInt.toNat) hx3 hy3 ht3 hty hb1 ha1
          generalize hxn : x.toInt.toNat = xn at *
          generalize hyn : y.toInt.toNat = yn at *
          generalize htn : t.toInt.toNat = tn at *
          generalize han : a.toInt.toNat = an at *
          generalize hbn : b.toInt.toNat = bn at *
          have e : (3 : Int32) * x + y = nI (3 * xn + yn) := by
            have e3 : (3 : Int32) * nI xn = nI (3 * xn) := pk_mul 3 xn
            rw [ex, ey, e3, nI_add]
          have hq9 : 3 * xn + yn < 9 := by omega
          have H1 := hV.t S (i := 3 * xn + yn) (v := tn)
          have G1 : MV (uI m (rd 7) (3 * xn + yn) (nI tn)) rd 1 A.2.1 := hV1.x S (by decide) hq9
          have e1 : uI m (rd 7) ((3 : Int32) * x + y).toNatClampNeg t = uI m (rd 7) (3 * xn + yn) (nI tn) := by rw [e, nI_c (by omega), ← et]
          generalize hm1 : uI m (rd 7) (3 * xn + yn) (nI tn) = m1 at H1 G1 e1
          have hF1 : FM rd (fun k => 1 ≤ k ∧ k ≤ 10) m m1 := by rw [← hm1]; exact FM.uI k7 (by decide)
          have S1 := hF1.S S
          have H2 := H1.c S1 (i := 3 * xn + yn) (v := an)
          have G2 : MV (uI m1 (rd 8) (3 * xn + yn) (nI an)) rd 1 A.2.1 := G1.x S1 (by decide) hq9
          have e2 : uI m1 (rd 8) ((3 : Int32) * x + y).toNatClampNeg a.toInt32 = uI m1 (rd 8) (3 * xn + yn) (nI an) := by rw [e, nI_c (by omega), ea]
          generalize hm2 : uI m1 (rd 8) (3 * xn + yn) (nI an) = m2 at H2 G2 e2
          have hF2 : FM rd (fun k => 1 ≤ k ∧ k ≤ 10) m m2 := hF1.tr (by rw [← hm2]; exact FM.uI k8 (by decide))
          have S2 := hF2.S S
          have H3 := H2.e S2 (i := 3 * xn + yn) (v := bn)
          have G3 : MV (uI m2 (rd 9) (3 * xn + yn) (nI bn)) rd 1 A.2.1 := G2.x S2 (by decide) hq9
          have e3 : uI m2 (rd 9) ((3 : Int32) * x + y).toNatClampNeg b.toInt32 = uI m2 (rd 9) (3 * xn + yn) (nI bn) := by rw [e, nI_c (by omega), eb]
          generalize hm3 : uI m2 (rd 9) (3 * xn + yn) (nI bn) = m3 at H3 G3 e3
          have hF3 : FM rd (fun k => 1 ≤ k ∧ k ≤ 10) m m3 := hF2.tr (by rw [← hm3]; exact FM.uI k9 (by decide))
          have S3 := hF3.S S
          have hT := h.tell hF3 (fun k q => q) H3 hRc G3
          have kt := c_Mo_touch (l := l) (D := D) (ca := ca) S3
          have hin : ∀ {m : jm_M} {k : Nat}, MST m rd → mkin k → (mkd k).2 = 18 → vp_in ((3 : Int32) * x + y) (m.2.1 (rd k)).2 := fun S hk h18 => by
            rw [e]; exact vin_of ((S.len hk).trans h18) (show 3 * xn + yn < 18 by omega) (by decide)
          have k78 : X 78 [(0, .ref (rd 0)), (1, .int x), (2, .int y), (3, .int t), (4, .long a), (6, .long b)] [] m3 0 0 := by
            refine jm_run hX [] 20 ?_
            refine And.intro (o0 S3) (And.intro (Nat.le_of_ble_eq_true rfl) (And.intro (Nat.le_of_ble_eq_true rfl) ⟨0, 0, _, Nat.le_refl _, Nat.le_refl _, kt, fun v2 m' hq => ?_⟩))
            obtain ⟨rfl, em'⟩ := hq
            exact ⟨Nat.le_refl _, Nat.le_refl _, Or.inr rfl, Or.inl ⟨rfl, hall, by rw [em']; exact hT.1, by rw [em']; exact hT.2⟩⟩
          have k65 : X 65 [(0, .ref (rd 0)), (1, .int x), (2, .int y), (3, .int t), (4, .long a), (6, .long b)] [] m2 0 0 := by
            rw [← e3] at k78
            refine jm_run hX [(78, [0, 1, 2, 3, 4, 6])] 20 ?_
            exact And.intro (o0 S2) ⟨some (rd 9), S2.2.2 9 k9 (by decide), And.intro (S2.ok k9) (And.intro (hin S2 k9 rfl) k78)⟩
          have k52 : X 52 [(0, .ref (rd 0)), (1, .int x), (2, .int y), (3, .int t), (4, .long a), (6, .long b)] [] m1 0 0 := by
            rw [← e2] at k65
            refine jm_run hX [(65, [0, 1, 2, 3, 4, 6])] 20 ?_
            exact And.intro (o0 S1) ⟨some (rd 8), S1.2.2 8 k8 (by decide), And.intro (S1.ok k8) (And.intro (hin S1 k8 rfl) k65)⟩
          have k41 : X 41 [(0, .ref (rd 0)), (1, .int x), (2, .int y), (3, .int t), (4, .long a), (6, .long b)] [] m 0 0 := by
            rw [← e1] at k52
            refine jm_run hX [(52, [0, 1, 2, 3, 4, 6])] 20 ?_
            exact And.intro (o0 S) ⟨some (rd 7), S.2.2 7 k7 (by decide), And.intro (S.ok k7) (And.intro (hin S k7 rfl) k52)⟩
          exact k41
        · rw [if_neg h4]
          refine And.intro (fun _ => ?_) (fun g => absurd rfl g)
          exact no (fun z => h4 z.2.2.2)
      · rw [if_neg h3]
        refine And.intro (fun _ => ?_) (fun g => absurd rfl g)
        exact no (fun z => h3 z.2.1)
    · rw [if_neg h2]
      refine And.intro (fun _ => ?_) (fun g => absurd rfl g)
      exact no (fun z => h2 z.1.2)
  · rw [if_neg h1]
    refine And.intro (fun _ => ?_) (fun g => absurd rfl g)
    exact no (fun z => h1 z.1.1)
theorem c_Mo_fits {m : jm_M} {rd : Nat → Nat} {R : RD} {j k o a b : Nat} (S : MST m rd) (hV : MV m rd 0 R) (hR : ROK R) (hj : j < 3) (hk : k < 3) (ho : o < 2) (ha : a ≤ 12) (hb : b ≤ 12) : jm_C l D ca n_Mo_fits [.ref (rd 0), .int (nI j), .int (nI k), .int (nI o), .long (lN a), .long (lN b)] m 0 0 (fun v m' => m' = m ∧ ((v = some (.int 1) ∧ fitR R (3 * j + k) o a b) ∨ (v = some (.int 0) ∧ ¬ fitR R (3 * j + k) o a b))) := by
  refine jm_C_of (cd := cd_Mo_fits) (ini := false) (by decide +kernel) ok_Mo_fits (fun h => by cases h) (Nat.le_of_ble_eq_true rfl) ?_
  intro X hX
  have o0 : jm_ok m (rd 0) 6 := S.ok (Or.inl (by decide))
  have k5 : mkin 5 := Or.inl (by decide)
  have k6 : mkin 6 := Or.inl (by decide)
  have hq : oth (3 * j + k) o < 18 := by unfold oth; omega
  have e : (2 : Int32) * ((3 : Int32) * nI j + nI k) + 1 - nI o = nI (oth (3 * j + k) o) := by
    have e3 : (3 : Int32) * nI j = nI (3 * j) := pk_mul 3 j
    rw [e3, nI_add]
    have e2 : (2 : Int32) * nI (3 * j + k) = nI (2 * (3 * j + k)) := pk_mul 2 _
    rw [e2, nI_1, pk_sub (by omega)]
    unfold oth
    rw [show 2 * (3 * j + k) + 1 - o = 2 * (3 * j + k) + (1 - o) by omega]
  have hv := hV.2.2.2.2.2.1 (oth (3 * j + k) o) hq
  rw [Nat.mul_zero, Nat.zero_add] at hv
  have hB := hR.2.2.2.2.2.1 (oth (3 * j + k) o) hq
  have eB : (m.2.2.1 (rd 6) ((2 : Int32) * ((3 : Int32) * nI j + nI k) + 1 - nI o).toNatClampNeg).toInt64 = lN (R.B (oth (3 * j + k) o)) := by
    rw [e, nI_c (by omega), hv.2]; exact nI_l (by omega)
  have eA : (m.2.2.1 (rd 5) ((2 : Int32) * ((3 : Int32) * nI j + nI k) + 1 - nI o).toNatClampNeg).toInt64 = lN (R.A (oth (3 * j + k) o)) := by
    rw [e, nI_c (by omega), hv.1]; exact nI_l (by omega)
  have m1 : a * R.B (oth (3 * j + k) o) ≤ 12 * 12 := Nat.mul_le_mul ha hB.1.2
  have m2 : R.A (oth (3 * j + k) o) * b ≤ 12 * 12 := Nat.mul_le_mul (by omega) hb
  have m3 : b * R.B (oth (3 * j + k) o) ≤ 12 * 12 := Nat.mul_le_mul hb hB.1.2
  have hin6 : vp_in ((2 : Int32) * ((3 : Int32) * nI j + nI k) + 1 - nI o) (m.2.1 (rd 6)).2 := by rw [e]; exact vin_of (S.len k6) (show _ < 36 by omega) (by decide)
  have hin5 : vp_in ((2 : Int32) * ((3 : Int32) * nI j + nI k) + 1 - nI o) (m.2.1 (rd 5)).2 := by rw [e]; exact vin_of (S.len k5) (show _ < 36 by omega) (by decide)
  refine jm_run hX [] 60 ?_
  refine And.intro o0 ⟨some (rd 6), S.2.2 6 k6 (by decide), And.intro (S.ok k6) (And.intro hin6 (And.intro o0 ⟨some (rd 5), S.2.2 5 k5 (by decide), And.intro (S.ok k5) (And.intro hin5 ?_)⟩))⟩
  refine And.intro (fun g => ?_) (fun g => ?_)
  · have g : 0 < lg_cmp (lN a * (m.2.2.1 (rd 6) ((2 : Int32) * ((3 : Int32) * nI j + nI k) + 1 - nI o).toNatClampNeg).toInt64 + (m.2.2.1 (rd 5) ((2 : Int32) * ((3 : Int32) * nI j + nI k) + 1 - nI o).toNatClampNeg).toInt64 * lN b) (lN b * (m.2.2.1 (rd 6) ((2 : Int32) * ((3 : Int32) * nI j + nI k) + 1 - nI o).toNatClampNeg).toInt64) := g
    rw [eA, eB, lN_mul, lN_mul, lN_mul, lN_add, lg_cmp_gt, pk_lLT (by omega) (by omega)] at g
    exact ⟨Nat.le_refl _, Nat.le_refl _, Or.inl rfl, rfl, Or.inr ⟨rfl, fun z => by unfold fitR at z; omega⟩⟩
  · have g : ¬ 0 < lg_cmp (lN a * (m.2.2.1 (rd 6) ((2 : Int32) * ((3 : Int32) * nI j + nI k) + 1 - nI o).toNatClampNeg).toInt64 + (m.2.2.1 (rd 5) ((2 : Int32) * ((3 : Int32) * nI j + nI k) + 1 - nI o).toNatClampNeg).toInt64 * lN b) (lN b * (m.2.2.1 (rd 6) ((2 : Int32) * ((3 : Int32) * nI j + nI k) + 1 - nI o).toNatClampNeg).toInt64) := g
    rw [eA, eB, lN_mul, lN_mul, lN_mul, lN_add, lg_cmp_gt, pk_lLT (by omega) (by omega)] at g
    exact ⟨Nat.le_refl _, Nat.le_refl _, Or.inr rfl, rfl, Or.inl ⟨rfl, by unfold fitR; omega⟩⟩
end RB23
