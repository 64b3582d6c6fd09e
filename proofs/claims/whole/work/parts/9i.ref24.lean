section RB24
variable {l : Launch} {D : va_G} {ca : Nat → ClassId}
abbrev shR (R : RD) (x y z : Int32) (a b : Int64) : Prop := isFr R x y z ∧ isSh a b ∧ fitR R (3 * x.toInt.toNat + y.toInt.toNat) z.toInt.toNat a.toInt.toNat b.toInt.toNat
theorem c_Mo_share {m : jm_M} {rd : Nat → Nat} {A : RSt} {n : Nat} (h : MI m rd A n) (x y z : Int32) (a b : Int64) : jm_C l D ca n_Mo_share [.ref (rd 0), .int x, .int y, .int z, .long a, .long b] m 0 0 (fun v m' => (v = some (.int 1) ∧ shR A.1 x y z a b ∧ FMa rd m m' ∧ MI m' rd (rTold A (rShare A.1 (2 * (3 * x.toInt.toNat + y.toInt.toNat) + z.toInt.toNat) a.toInt.toNat b.toInt.toNat)) (n + 1)) ∨ (v = some (.int 0) ∧ ¬ shR A.1 x y z a b ∧ m' = m)) := by
  refine jm_C_of (cd := cd_Mo_share) (ini := false) (by decide +kernel) ok_Mo_share (fun h => by cases h) (Nat.le_of_ble_eq_true rfl) ?_
  intro X hX
  have S := h.1
  have hV : MV m rd 0 A.1 := (h.2.1 0 (by decide)).1
  have hR : ROK A.1 := (h.2.1 0 (by decide)).2
  have hV1 : MV m rd 1 A.2.1 := (h.2.1 1 (by decide)).1
  have hM : A.1.M ≤ 3 := hR.2.1
  have hK : 1 ≤ A.1.K ∧ A.1.K ≤ 3 := hR.1
  have o0 : ∀ {m : jm_M}, MST m rd → jm_ok m (rd 0) 6 := fun S => S.ok (Or.inl (by decide))
  have k5 : mkin 5 := Or.inl (by decide)
  have k6 : mkin 6 := Or.inl (by decide)
  have no : ¬ shR A.1 x y z a b → X 34 [(0, .ref (rd 0)), (1, .int x), (2, .int y), (3, .int z), (4, .long a), (6, .long b)] [] m 0 0 := fun hn => by
    refine jm_run hX [] 5 ?_
    exact ⟨Nat.le_refl _, Nat.le_refl _, Or.inl rfl, Or.inr ⟨rfl, hn, rfl⟩⟩
  refine jm_run hX [(34, [0, 1, 2, 3, 4, 6]), (36, [0, 1, 2, 3, 4, 6])] 80 ?_
  refine And.intro (o0 S) (And.intro (Nat.le_of_ble_eq_true rfl) (And.intro (Nat.le_of_ble_eq_true rfl) ⟨0, 0, _, Nat.le_refl _, Nat.le_refl _, c_Mo_isFree h x y z, fun v m' hq => ?_⟩))
  obtain ⟨ee, rfl⟩ := hq
  have ee := ee.symm
  subst ee
  by_cases h1 : isFr A.1 x y z
  · rw [if_pos h1]
    refine And.intro (fun g => absurd g (by decide)) (fun _ => ?_)
    refine And.intro (Nat.le_of_ble_eq_true rfl) (And.intro (Nat.le_of_ble_eq_true rfl) ⟨0, 0, _, Nat.le_refl _, Nat.le_refl _, c_Mo_isShare a b, fun v m' hq => ?_⟩)
    obtain ⟨ee, rfl⟩ := hq
    have ee := ee.symm
    subst ee
    by_cases h4 : (1 ≤ b.toInt ∧ b.toInt ≤ 12) ∧ 0 ≤ a.toInt ∧ a.toInt ≤ b.toInt
    · rw [if_pos h4]
      refine And.intro (fun g => absurd g (by decide)) (fun _ => ?_)
      have hou : 1 ≤ A.1.O x.toInt.toNat ∧ A.1.O x.toInt.toNat ≤ 3 := hR.2.2.2.1 x.toInt.toNat (by omega)
      have ex : x = nI x.toInt.toNat := i_of h1.1.1.1
      have ey : y = nI y.toInt.toNat := i_of h1.2.1.1
      have ez : z = nI z.toInt.toNat := i_of h1.1.2.1
      have ea := l2i (g := a) (M := 12) (by omega) (by omega)
      have eb := l2i (g := b) (M := 12) (by omega) (by omega)
      have hx3 : x.toInt.toNat < 3 := by omega
      have hy3 : y.toInt.toNat < 3 := by omega
      have hz2 : z.toInt.toNat < 2 := by omega
      have hb1 : 1 ≤ b.toInt.toNat ∧ b.toInt.toNat ≤ 12 := by omega
      have ha1 : a.toInt.toNat ≤ b.toInt.toNat := by omega
      have kf := c_Mo_fits (l := l) (D := D) (ca := ca) S hV hR hx3 hy3 hz2 (show a.toInt.toNat ≤ 12 by omega) hb1.2
      rw [← ex, ← ey, ← ez, ← ea.2, ← eb.2] at kf
      refine And.intro (o0 S) (And.intro (Nat.le_of_ble_eq_true rfl) (And.intro (Nat.le_of_ble_eq_true rfl) ⟨0, 0, _, Nat.le_refl _, Nat.le_refl _, kf, fun v m' hq => ?_⟩))
      obtain ⟨ee, hq⟩ := hq
      have ee := ee.symm
      subst ee
      rcases hq with ⟨rfl, hfit⟩ | ⟨rfl, hfit⟩
      · refine And.intro (fun g => absurd g (by decide)) (fun _ => ?_)
        have hall : shR A.1 x y z a b := ⟨h1, h4, hfit⟩
        have hRc := hR.share (r := 3 * x.toInt.toNat + y.toInt.toNat) (o := z.toInt.toNat) (by omega) hz2 hb1 ha1 hfit
        generalize hxn : x.toInt.toNat = xn at *
        generalize hyn : y.toInt.toNat = yn at *
        generalize hzn : z.toInt.toNat = zn at *
        generalize han : a.toInt.toNat = an at *
        generalize hbn : b.toInt.toNat = bn at *
        have e : (2 : Int32) * ((3 : Int32) * x + y) + z = nI (2 * (3 * xn + yn) + zn) := by
          have e3 : (3 : Int32) * nI xn = nI (3 * xn) := pk_mul 3 xn
          have e2 : (2 : Int32) * nI (3 * xn + yn) = nI (2 * (3 * xn + yn)) := pk_mul 2 _
          rw [ex, ey, ez, e3, nI_add, e2, nI_add]
        have hq9 : 2 * (3 * xn + yn) + zn < 18 := by omega
        have H1 := hV.a S (i := 2 * (3 * xn + yn) + zn) (v := an)
        have G1 : MV (uI m (rd 5) (2 * (3 * xn + yn) + zn) (nI an)) rd 1 A.2.1 := hV1.x S (by decide) hq9
        have e1 : uI m (rd 5) ((2 : Int32) * ((3 : Int32) * x + y) + z).toNatClampNeg a.toInt32 = uI m (rd 5) (2 * (3 * xn + yn) + zn) (nI an) := by rw [e, nI_c (by omega), ea.1]
        generalize hm1 : uI m (rd 5) (2 * (3 * xn + yn) + zn) (nI an) = m1 at H1 G1 e1
        have hF1 : FM rd (fun k => 1 ≤ k ∧ k ≤ 10) m m1 := by rw [← hm1]; exact FM.uI k5 (by decide)
        have S1 := hF1.S S
        have H2 := H1.b S1 (i := 2 * (3 * xn + yn) + zn) (v := bn)
        have G2 : MV (uI m1 (rd 6) (2 * (3 * xn + yn) + zn) (nI bn)) rd 1 A.2.1 := G1.x S1 (by decide) hq9
        have e2 : uI m1 (rd 6) ((2 : Int32) * ((3 : Int32) * x + y) + z).toNatClampNeg b.toInt32 = uI m1 (rd 6) (2 * (3 * xn + yn) + zn) (nI bn) := by rw [e, nI_c (by omega), eb.1]
        generalize hm2 : uI m1 (rd 6) (2 * (3 * xn + yn) + zn) (nI bn) = m2 at H2 G2 e2
        have hF2 : FM rd (fun k => 1 ≤ k ∧ k ≤ 10) m m2 := hF1.tr (by rw [← hm2]; exact FM.uI k6 (by decide))
        have S2 := hF2.S S
        have hT := h.tell hF2 (fun k q => q) H2 hRc G2
        have kt := c_Mo_touch (l := l) (D := D) (ca := ca) S2
        have hin : ∀ {m : jm_M} {k : Nat}, MST m rd → mkin k → (mkd k).2 = 36 → vp_in ((2 : Int32) * ((3 : Int32) * x + y) + z) (m.2.1 (rd k)).2 := fun S hk h18 => by
          rw [e]; exact vin_of ((S.len hk).trans h18) (show _ < 36 by omega) (by decide)
        have k70 : X 70 [(0, .ref (rd 0)), (1, .int x), (2, .int y), (3, .int z), (4, .long a), (6, .long b)] [] m2 0 0 := by
          refine jm_run hX [] 20 ?_
          refine And.intro (o0 S2) (And.intro (Nat.le_of_ble_eq_true rfl) (And.intro (Nat.le_of_ble_eq_true rfl) ⟨0, 0, _, Nat.le_refl _, Nat.le_refl _, kt, fun v2 m' hq => ?_⟩))
          obtain ⟨rfl, em'⟩ := hq
          exact ⟨Nat.le_refl _, Nat.le_refl _, Or.inr rfl, Or.inl ⟨rfl, hall, by rw [em']; exact hT.1, by rw [em']; exact hT.2⟩⟩
        have k53 : X 53 [(0, .ref (rd 0)), (1, .int x), (2, .int y), (3, .int z), (4, .long a), (6, .long b)] [] m1 0 0 := by
          rw [← e2] at k70
          refine jm_run hX [(70, [0, 1, 2, 3, 4, 6])] 20 ?_
          exact And.intro (o0 S1) ⟨some (rd 6), S1.2.2 6 k6 (by decide), And.intro (S1.ok k6) (And.intro (hin S1 k6 rfl) k70)⟩
        have k36 : X 36 [(0, .ref (rd 0)), (1, .int x), (2, .int y), (3, .int z), (4, .long a), (6, .long b)] [] m 0 0 := by
          rw [← e1] at k53
          refine jm_run hX [(53, [0, 1, 2, 3, 4, 6])] 20 ?_
          exact And.intro (o0 S) ⟨some (rd 5), S.2.2 5 k5 (by decide), And.intro (S.ok k5) (And.intro (hin S k5 rfl) k53)⟩
        exact k36
      · refine And.intro (fun _ => ?_) (fun g => absurd rfl g)
        exact no (fun q => hfit q.2.2)
    · rw [if_neg h4]
      refine And.intro (fun _ => ?_) (fun g => absurd rfl g)
      exact no (fun q => h4 q.2.1)
  · rw [if_neg h1]
    refine And.intro (fun _ => ?_) (fun g => absurd rfl g)
    exact no (fun q => h1 q.1)
theorem c_Mo_kept {m : jm_M} {rd : Nat → Nat} {A : RSt} {n : Nat} (h : MI m rd A n) : jm_C l D ca n_Mo_kept [.ref (rd 0)] m 0 0 (fun v m' => m' = m ∧ v = some (.int (bI A.2.2.2.2.2.2))) := by
  refine jm_C_of (cd := cd_Mo_kept) (ini := false) (by decide +kernel) ok_Mo_kept (fun h => by cases h) (Nat.le_of_ble_eq_true rfl) ?_
  intro X hX
  have S := h.1
  have e := h.2.2.2.2.2.2.1
  have o0 : jm_ok m (rd 0) 6 := S.ok (Or.inl (by decide))
  refine jm_run hX [] 10 ?_
  refine And.intro o0 ?_
  refine ⟨Nat.le_refl _, Nat.le_refl _, ?_, rfl, ?_⟩
  · show m.2.2.1 (rd 0) 15 = 0 ∨ m.2.2.1 (rd 0) 15 = 1
    rw [e]; exact bI01 _
  · show some (Value.int (m.2.2.1 (rd 0) 15)) = _
    rw [e]
abbrev spR (R : RD) (x : Int32) (a b : Int64) : Prop := isM R x ∧ 0 ≤ a.toInt ∧ a.toInt ≤ b.toInt ∧ b.toInt ≤ 1000000000
theorem c_Mo_span {m : jm_M} {rd : Nat → Nat} {A : RSt} {n : Nat} (h : MI m rd A n) (x : Int32) (a b : Int64) : jm_C l D ca n_Mo_span [.ref (rd 0), .int x, .long a, .long b] m 0 0 (fun v m' => (v = some (.int 1) ∧ spR A.1 x a b ∧ FMa rd m m' ∧ MI m' rd (A.1, A.2.1, va_up A.2.2.1 x.toInt.toNat true, va_up A.2.2.2.1 x.toInt.toNat a.toInt.toNat, va_up A.2.2.2.2.1 x.toInt.toNat b.toInt.toNat, A.2.2.2.2.2) n) ∨ (v = some (.int 0) ∧ ¬ spR A.1 x a b ∧ m' = m)) := by
  refine jm_C_of (cd := cd_Mo_span) (ini := false) (by decide +kernel) ok_Mo_span (fun h => by cases h) (Nat.le_of_ble_eq_true rfl) ?_
  intro X hX
  have S := h.1
  have hR : ROK A.1 := (h.2.1 0 (by decide)).2
  have hM : A.1.M ≤ 3 := hR.2.1
  have o0 : ∀ {m : jm_M}, MST m rd → jm_ok m (rd 0) 6 := fun S => S.ok (Or.inl (by decide))
  have k11 : mkin 11 := Or.inl (by decide)
  have k12 : mkin 12 := Or.inl (by decide)
  have k13 : mkin 13 := Or.inl (by decide)
  have e0 : (0 : Int64).toInt = 0 := by decide
  have eg : (1000000000 : Int64).toInt = 1000000000 := by decide
  have no : ¬ spR A.1 x a b → X 30 [(0, .ref (rd 0)), (1, .int x), (2, .long a), (4, .long b)] [] m 0 0 := fun hn => by
    refine jm_run hX [] 5 ?_
    exact ⟨Nat.le_refl _, Nat.le_refl _, Or.inl rfl, Or.inr ⟨rfl, hn, rfl⟩⟩
  refine jm_run hX [(30, [0, 1, 2, 4]), (32, [0, 1, 2, 4])] 80 ?_
  refine And.intro (o0 S) (And.intro (Nat.le_of_ble_eq_true rfl) (And.intro (Nat.le_of_ble_eq_true rfl) ⟨0, 0, _, Nat.le_refl _, Nat.le_refl _, c_Mo_isMachine h x, fun v m' hq => ?_⟩))
  obtain ⟨ee, rfl⟩ := hq
  have ee := ee.symm
  subst ee
  by_cases h1 : isM A.1 x
  · rw [if_pos h1]
    refine And.intro (fun g => absurd g (by decide)) (fun _ => ?_)
    refine And.intro (fun g => ?_) (fun g => ?_)
    · have g : lg_cmp a 0 < 0 := g
      rw [lg_cmp_lt, Int64.lt_iff_toInt_lt, e0] at g
      exact no (fun q => by omega)
    have g : ¬ lg_cmp a 0 < 0 := g
    rw [lg_cmp_lt, Int64.lt_iff_toInt_lt, e0] at g
    refine And.intro (fun g2 => ?_) (fun g2 => ?_)
    · have g2 : 0 < lg_cmp a b := g2
      rw [lg_cmp_gt, Int64.lt_iff_toInt_lt] at g2
      exact no (fun q => by omega)
    have g2 : ¬ 0 < lg_cmp a b := g2
    rw [lg_cmp_gt, Int64.lt_iff_toInt_lt] at g2
    refine And.intro (fun g3 => ?_) (fun g3 => ?_)
    · have g3 : lg_cmp b 1000000000 ≤ 0 := g3
      rw [lg_cmp_le, Int64.le_iff_toInt_le, eg] at g3
      have hall : spR A.1 x a b := ⟨h1, by omega, by omega, g3⟩
      have ex : x = nI x.toInt.toNat := i_of h1.1
      have ea := (l2i (g := a) (M := 1000000000) (by omega) (by omega)).2
      have eb := (l2i (g := b) (M := 1000000000) (by omega) (by omega)).2
      have hx3 : x.toInt.toNat < 3 := by omega
      have ha : a.toInt.toNat ≤ 1000000000 := by omega
      have hb : b.toInt.toNat ≤ 1000000000 := by omega
      have hxc : x.toNatClampNeg = x.toInt.toNat := by
        conv => lhs; rw [ex]
        exact nI_c (by omega)
      have k32 : X 32 [(0, .ref (rd 0)), (1, .int x), (2, .long a), (4, .long b)] [] m 0 0 := by
        have hin : ∀ k, mkin k → (mkd k).2 = 3 → vp_in x (m.2.1 (rd k)).2 := fun k hk h18 => by
          rw [ex]; exact vin_of ((S.len hk).trans h18) hx3 (by decide)
        refine jm_run hX [] 40 ?_
        refine And.intro (o0 S) ⟨some (rd 11), S.2.2 11 k11 (by decide), And.intro (S.ok k11) (And.intro (hin 11 k11 rfl) (And.intro (Or.inr rfl) ?_))⟩
        refine And.intro (o0 S) ⟨some (rd 12), S.2.2 12 k12 (by decide), And.intro (S.ok k12) (And.intro (hin 12 k12 rfl) ?_)⟩
        refine And.intro (o0 S) ⟨some (rd 13), S.2.2 13 k13 (by decide), And.intro (S.ok k13) (And.intro (hin 13 k13 rfl) ?_)⟩
        have hF : FM rd (fun k => 11 ≤ k ∧ k ≤ 13) m (uJ (uJ (uI m (rd 11) x.toNatClampNeg (bI true)) (rd 12) x.toNatClampNeg a) (rd 13) x.toNatClampNeg b) := (FM.tr (m2 := uI m (rd 11) x.toNatClampNeg (bI true)) (FM.uI k11 (by decide)) (FM.uJ k12 (by decide))).tr (FM.uJ k13 (by decide))
        refine ⟨Nat.le_refl _, Nat.le_refl _, Or.inr rfl, Or.inl ⟨rfl, hall, hF.a, ?_⟩⟩
        have e11 : (uJ (uJ (uI m (rd 11) x.toNatClampNeg (bI true)) (rd 12) x.toNatClampNeg a) (rd 13) x.toNatClampNeg b).2.2.1 (rd 11) = va_up (m.2.2.1 (rd 11)) x.toInt.toNat (bI true) := by
          show va_up m.2.2.1 (rd 11) _ (rd 11) = _
          rw [va_up_self, hxc]
        have e12 : (uJ (uJ (uI m (rd 11) x.toNatClampNeg (bI true)) (rd 12) x.toNatClampNeg a) (rd 13) x.toNatClampNeg b).2.2.2.1 (rd 12) = va_up (m.2.2.2.1 (rd 12)) x.toInt.toNat a := by
          show va_up (va_up m.2.2.2.1 (rd 12) _) (rd 13) _ (rd 12) = _
          rw [va_up_ne _ _ (S.ne k12 k13 (by decide)), va_up_self, hxc]; rfl
        have e13 : (uJ (uJ (uI m (rd 11) x.toNatClampNeg (bI true)) (rd 12) x.toNatClampNeg a) (rd 13) x.toNatClampNeg b).2.2.2.1 (rd 13) = va_up (m.2.2.2.1 (rd 13)) x.toInt.toNat b := by
          show va_up (va_up m.2.2.2.1 (rd 12) _) (rd 13) (va_up (va_up m.2.2.2.1 (rd 12) _ (rd 13)) _ _) (rd 13) = _
          rw [va_up_self, va_up_ne _ _ (S.ne k13 k12 (by decide)), hxc]
        show MI (uJ (uJ (uI m (rd 11) x.toNatClampNeg (bI true)) (rd 12) x.toNatClampNeg a) (rd 13) x.toNatClampNeg b) rd _ n
        generalize uJ (uJ (uI m (rd 11) x.toNatClampNeg (bI true)) (rd 12) x.toNatClampNeg a) (rd 13) x.toNatClampNeg b = m' at hF e11 e12 e13 ⊢
        obtain ⟨-, h1, h2, h3, h4, h5, h6, t, hh, c1, c2, c3, c4⟩ := h
        have at' : ∀ k, mkin k → k ≤ 10 ∨ 14 ≤ k → m'.2.2.1 (rd k) = m.2.2.1 (rd k) ∧ m'.2.2.2.1 (rd k) = m.2.2.2.1 (rd k) := fun k hk hr => hF.at S hk (fun q => by omega)
        have a0 := (at' 0 (Or.inl (by decide)) (by omega)).1
        refine ⟨hF.S S, fun f hf => ⟨(h1 f hf).1.mv (by rw [a0]) (fun k q1 q2 => (at' k (Or.inl (by omega)) (by omega)).1), (h1 f hf).2⟩, ?_, ?_, fun j hj => ?_, ?_, ?_, t, hh, fun f hf => ?_, c2, ?_, ?_⟩
        · rw [(at' 16 (Or.inr (Or.inl (by decide))) (by omega)).2]; exact h2
        · rw [(at' 25 (Or.inr (Or.inl (by decide))) (by omega)).2]; exact h3
        · rw [e11, e12, e13]
          show va_up _ _ _ _ = bI (va_up A.2.2.1 x.toInt.toNat true j) ∧ va_up _ _ _ _ = lN (va_up A.2.2.2.1 x.toInt.toNat a.toInt.toNat j) ∧ va_up _ _ _ _ = lN (va_up A.2.2.2.2.1 x.toInt.toNat b.toInt.toNat j) ∧ va_up A.2.2.2.1 x.toInt.toNat a.toInt.toNat j ≤ 1000000000 ∧ va_up A.2.2.2.2.1 x.toInt.toNat b.toInt.toNat j ≤ 1000000000
          by_cases w : j = x.toInt.toNat
          · subst w
            rw [va_up_self, va_up_self, va_up_self, va_up_self, va_up_self, va_up_self]
            exact ⟨rfl, ea, eb, ha, hb⟩
          · rw [va_up_ne _ _ w, va_up_ne _ _ w, va_up_ne _ _ w, va_up_ne _ _ w, va_up_ne _ _ w, va_up_ne _ _ w]
            exact h4 j hj
        · rw [a0]; exact h5
        · rw [a0]; exact h6
        · rw [(at' 33 (Or.inr (Or.inr (Or.inr rfl))) (by omega)).1]; exact c1 f hf
        · rw [a0]; exact c3
        · rw [a0]
          rcases c4 with q | ⟨f, q1, q2, q3, q4⟩
          · exact Or.inl q
          · exact Or.inr ⟨f, q1, q2, q3, fun z => (q4 z).mv (at' 23 (Or.inr (Or.inl (by decide))) (by omega)).2 (at' 24 (Or.inr (Or.inl (by decide))) (by omega)).2⟩
      exact k32
    · have g3 : ¬ lg_cmp b 1000000000 ≤ 0 := g3
      rw [lg_cmp_le, Int64.le_iff_toInt_le, eg] at g3
      exact no (fun q => by omega)
  · rw [if_neg h1]
    refine And.intro (fun _ => ?_) (fun g => absurd rfl g)
    exact no (fun q => h1 q.1)
end RB24
