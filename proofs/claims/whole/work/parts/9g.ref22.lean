section RB22
variable {l : Launch} {D : va_G} {ca : Nat → ClassId}
theorem c_Mo_joinOut {m : jm_M} {rd : Nat → Nat} {A : RSt} {n : Nat} (h : MI m rd A n) (x y t : Int32) : jm_C l D ca n_Mo_joinOut [.ref (rd 0), .int x, .int y, .int t] m 0 0 (fun v m' => (v = some (.int 1) ∧ isO A.1 x y ∧ jOK A.1.M A.1.P t ∧ FMa rd m m' ∧ MI m' rd (rTold A (rJoin A.1 (3 * x.toInt.toNat + y.toInt.toNat) t)) (n + 1)) ∨ (v = some (.int 0) ∧ ¬ (isO A.1 x y ∧ jOK A.1.M A.1.P t) ∧ m' = m)) := by
  refine jm_C_of (cd := cd_Mo_joinOut) (ini := false) (by decide +kernel) ok_Mo_joinOut (fun h => by cases h) (Nat.le_of_ble_eq_true rfl) ?_
  intro X hX
  have S := h.1
  have hV : MV m rd 0 A.1 := (h.2.1 0 (by decide)).1
  have hR : ROK A.1 := (h.2.1 0 (by decide)).2
  have hV1 : MV m rd 1 A.2.1 := (h.2.1 1 (by decide)).1
  have hM : A.1.M ≤ 3 := hR.2.1
  have hP : A.1.P ≤ 3 := hR.2.2.1
  have o0 : ∀ {m : jm_M}, MST m rd → jm_ok m (rd 0) 6 := fun S => S.ok (Or.inl (by decide))
  have k1 : mkin 1 := Or.inl (by decide)
  have k2 : mkin 2 := Or.inl (by decide)
  have k4 : mkin 4 := Or.inl (by decide)
  have hin1 : vp_in (nI 0) (m.2.1 (rd 1)).2 := vin_of (S.len k1) (by decide) (by decide)
  have hin2 : vp_in (nI 0) (m.2.1 (rd 2)).2 := vin_of (S.len k2) (by decide) (by decide)
  have eM : m.2.2.1 (rd 1) 0 = nI A.1.M := hV.2.1
  have eP : m.2.2.1 (rd 2) 0 = nI A.1.P := hV.2.2.1
  have em1 : (-1 : Int32).toInt = -1 := by decide
  have em2 : (-2 : Int32).toInt = -2 := by decide
  have eP2 : ((-2 : Int32) - nI A.1.P).toInt = -2 - (A.1.P : Int) := by
    have : ∀ p, p < 4 → ((-2 : Int32) - nI p).toInt = -2 - (p : Int) := by decide
    exact this A.1.P (by omega)
  have k43 : ∀ b, (b = true ↔ jOK A.1.M A.1.P t) → X 43 [(0, .ref (rd 0)), (1, .int x), (2, .int y), (3, .int t)] [.int (bI b)] m 0 0 := fun b hb => by
    refine jm_run hX [] 60 ?_
    refine And.intro (o0 S) (And.intro (Nat.le_of_ble_eq_true rfl) (And.intro (Nat.le_of_ble_eq_true rfl) ⟨0, 0, _, Nat.le_refl _, Nat.le_refl _, c_Mo_isOut h x y, fun v m' hq => ?_⟩))
    obtain ⟨ee, rfl⟩ := hq
    have ee := ee.symm
    subst ee
    by_cases h1 : isO A.1 x y
    · rw [if_pos h1]
      refine And.intro (fun g => absurd g (by decide)) (fun _ => ?_)
      refine And.intro (fun g => ?_) (fun g => ?_)
      · have g : bI b = 0 := g
        rw [bI_eq0] at g
        have g : ¬ jOK A.1.M A.1.P t := fun z => by rw [hb.mpr z] at g; cases g
        exact ⟨Nat.le_refl _, Nat.le_refl _, Or.inl rfl, Or.inr ⟨rfl, fun z => g z.2, rfl⟩⟩
      · have g : ¬ bI b = 0 := g
        rw [bI_eq0, Bool.not_eq_false, hb] at g
        have hou : 1 ≤ A.1.O x.toInt.toNat ∧ A.1.O x.toInt.toNat ≤ 3 := hR.2.2.2.1 x.toInt.toNat (by omega)
        have ex : x = nI x.toInt.toNat := i_of h1.1.1
        have ey : y = nI y.toInt.toNat := i_of h1.2.1
        have hx3 : x.toInt.toNat < 3 := by omega
        have hy3 : y.toInt.toNat < 3 := by omega
        generalize hxn : x.toInt.toNat = xn at *
        generalize hyn : y.toInt.toNat = yn at *
        have e : (3 : Int32) * x + y = nI (3 * xn + yn) := by
          have e3 : (3 : Int32) * nI xn = nI (3 * xn) := pk_mul 3 xn
          rw [ex, ey, e3, nI_add]
        have Ho := hV.j S (i := 3 * xn + yn) (t := t)
        have hV12 : MV (uI m (rd 4) (3 * xn + yn) t) rd 1 A.2.1 := hV1.x S (by decide) (show 3 * xn + yn < 9 by omega)
        have e1 : uI m (rd 4) ((3 : Int32) * x + y).toNatClampNeg t = uI m (rd 4) (3 * xn + yn) t := by rw [e, nI_c (by omega)]
        generalize hm1 : uI m (rd 4) (3 * xn + yn) t = m1 at Ho hV12 e1
        have hF1 : FM rd (fun k => 1 ≤ k ∧ k ≤ 10) m m1 := by rw [← hm1]; exact FM.uI k4 (by decide)
        have S1 := hF1.S S
        have hT := h.tell hF1 (fun k q => q) Ho (hR.join g) hV12
        have kt := c_Mo_touch (l := l) (D := D) (ca := ca) S1
        rw [← e1] at kt
        refine And.intro (o0 S) ⟨some (rd 4), S.2.2 4 k4 (by decide), And.intro (S.ok k4) (And.intro ?_ ?_)⟩
        · show vp_in ((3 : Int32) * x + y) (m.2.1 (rd 4)).2
          rw [e]; exact vin_of (S.len k4) (show 3 * xn + yn < 18 by omega) (by decide)
        refine And.intro (show jm_ok (uI m (rd 4) ((3 : Int32) * x + y).toNatClampNeg t) (rd 0) 6 from o0 S) (And.intro (Nat.le_of_ble_eq_true rfl) (And.intro (Nat.le_of_ble_eq_true rfl) ⟨0, 0, _, Nat.le_refl _, Nat.le_refl _, kt, fun v2 m' hq => ?_⟩))
        rw [e1] at hq
        obtain ⟨rfl, em'⟩ := hq
        exact ⟨Nat.le_refl _, Nat.le_refl _, Or.inr rfl, Or.inl ⟨rfl, h1, g, by rw [em']; exact hT.1, by rw [em']; exact hT.2⟩⟩
    · rw [if_neg h1]
      refine And.intro (fun _ => ?_) (fun g => absurd rfl g)
      exact ⟨Nat.le_refl _, Nat.le_refl _, Or.inl rfl, Or.inr ⟨rfl, fun z => h1 z.1, rfl⟩⟩
  have k19 : ¬ (t.toInt = -1) → ¬ (0 ≤ t.toInt ∧ t.toInt < (A.1.M : Int)) → X 19 [(0, .ref (rd 0)), (1, .int x), (2, .int y), (3, .int t)] [] m 0 0 := fun n1 n2 => by
    refine jm_run hX [(43, [0, 1, 2, 3])] 40 ?_
    refine And.intro (fun g => ?_) (fun g => ?_)
    · have g : (-2 : Int32) < t := g
      rw [Int32.lt_iff_toInt_lt, em2] at g
      exact k43 false ⟨(fun z => by cases z), fun z => by unfold jOK at z; omega⟩
    · have g : ¬ (-2 : Int32) < t := g
      rw [Int32.lt_iff_toInt_lt, em2] at g
      refine And.intro (o0 S) ⟨some (rd 2), S.2.2 2 k2 (by decide), And.intro (S.ok k2) (And.intro hin2 ?_)⟩
      refine And.intro (fun g2 => ?_) (fun g2 => ?_)
      · have g2 : t ≤ (-2 : Int32) - m.2.2.1 (rd 2) 0 := g2
        rw [eP, Int32.le_iff_toInt_le, eP2] at g2
        exact k43 false ⟨(fun z => by cases z), fun z => by unfold jOK at z; omega⟩
      · have g2 : ¬ t ≤ (-2 : Int32) - m.2.2.1 (rd 2) 0 := g2
        rw [eP, Int32.le_iff_toInt_le, eP2] at g2
        exact k43 true ⟨fun _ => by unfold jOK; omega, fun _ => rfl⟩
  refine jm_run hX [(43, [0, 1, 2, 3]), (19, [0, 1, 2, 3])] 40 ?_
  refine And.intro (fun g => ?_) (fun g => ?_)
  · have g : t = -1 := g
    exact k43 true ⟨fun _ => by unfold jOK; rw [g, em1]; omega, fun _ => rfl⟩
  · have g : ¬ t = -1 := g
    have g0 : ¬ t.toInt = -1 := fun z => g (Int32.toInt_inj.mp (by rw [z, em1]))
    refine And.intro (fun g2 => ?_) (fun g2 => ?_)
    · rw [ilt0] at g2
      exact k19 g0 (by omega)
    · rw [ilt0] at g2
      refine And.intro (o0 S) ⟨some (rd 1), S.2.2 1 k1 (by decide), And.intro (S.ok k1) (And.intro hin1 ?_)⟩
      refine And.intro (fun g3 => ?_) (fun g3 => ?_)
      · have g3 : t < m.2.2.1 (rd 1) 0 := g3
        rw [eM, Int32.lt_iff_toInt_lt, nI_toInt (by omega)] at g3
        exact k43 true ⟨fun _ => by unfold jOK; omega, fun _ => rfl⟩
      · have g3 : ¬ t < m.2.2.1 (rd 1) 0 := g3
        rw [eM, Int32.lt_iff_toInt_lt, nI_toInt (by omega)] at g3
        exact k19 g0 (by omega)
theorem l2i {g : Int64} {M : Nat} (h0 : 0 ≤ g.toInt) (h1 : g.toInt ≤ (M : Int)) : g.toInt32 = nI g.toInt.toNat ∧ g = lN g.toInt.toNat := by
  have e : g = lN g.toInt.toNat := l_of h0
  refine ⟨?_, e⟩
  conv => lhs; rw [e]
  exact lN_i _
theorem c_Mo_feed {m : jm_M} {rd : Nat → Nat} {A : RSt} {n : Nat} (h : MI m rd A n) (x y : Int32) (g : Int64) : jm_C l D ca n_Mo_feed [.ref (rd 0), .int x, .int y, .long g] m 0 0 (fun v m' => (v = some (.int 1) ∧ ((isM A.1 x ∧ isK A.1 y) ∧ 0 ≤ g.toInt ∧ g.toInt ≤ 1000000) ∧ FMa rd m m' ∧ MI m' rd (rTold A (rFee A.1 (3 * x.toInt.toNat + y.toInt.toNat) g.toInt.toNat)) (n + 1)) ∨ (v = some (.int 0) ∧ ¬ ((isM A.1 x ∧ isK A.1 y) ∧ 0 ≤ g.toInt ∧ g.toInt ≤ 1000000) ∧ m' = m)) := by
  refine jm_C_of (cd := cd_Mo_feed) (ini := false) (by decide +kernel) ok_Mo_feed (fun h => by cases h) (Nat.le_of_ble_eq_true rfl) ?_
  intro X hX
  have S := h.1
  have hV : MV m rd 0 A.1 := (h.2.1 0 (by decide)).1
  have hR : ROK A.1 := (h.2.1 0 (by decide)).2
  have hV1 : MV m rd 1 A.2.1 := (h.2.1 1 (by decide)).1
  have hM : A.1.M ≤ 3 := hR.2.1
  have hK : 1 ≤ A.1.K ∧ A.1.K ≤ 3 := hR.1
  have o0 : ∀ {m : jm_M}, MST m rd → jm_ok m (rd 0) 6 := fun S => S.ok (Or.inl (by decide))
  have k10 : mkin 10 := Or.inl (by decide)
  have e0 : (0 : Int64).toInt = 0 := by decide
  have eg : (1000000 : Int64).toInt = 1000000 := by decide
  refine jm_run hX [] 80 ?_
  refine And.intro (o0 S) (And.intro (Nat.le_of_ble_eq_true rfl) (And.intro (Nat.le_of_ble_eq_true rfl) ⟨0, 0, _, Nat.le_refl _, Nat.le_refl _, c_Mo_isMachine h x, fun v m' hq => ?_⟩))
  obtain ⟨ee, rfl⟩ := hq
  have ee := ee.symm
  subst ee
  by_cases h1 : isM A.1 x
  · rw [if_pos h1]
    refine And.intro (fun g => absurd g (by decide)) (fun _ => ?_)
    refine And.intro (o0 S) (And.intro (Nat.le_of_ble_eq_true rfl) (And.intro (Nat.le_of_ble_eq_true rfl) ⟨0, 0, _, Nat.le_refl _, Nat.le_refl _, c_Mo_isKind h y, fun v m' hq => ?_⟩))
    obtain ⟨ee, rfl⟩ := hq
    have ee := ee.symm
    subst ee
    by_cases h2 : isK A.1 y
    · rw [if_pos h2]
      refine And.intro (fun g => absurd g (by decide)) (fun _ => ?_)
      refine And.intro (fun g2 => ?_) (fun g2 => ?_)
      · have g2 : lg_cmp g 0 < 0 := g2
        rw [lg_cmp_lt, Int64.lt_iff_toInt_lt, e0] at g2
        exact ⟨Nat.le_refl _, Nat.le_refl _, Or.inl rfl, Or.inr ⟨rfl, fun z => by omega, rfl⟩⟩
      · have g2 : ¬ lg_cmp g 0 < 0 := g2
        rw [lg_cmp_lt, Int64.lt_iff_toInt_lt, e0] at g2
        refine And.intro (fun g3 => ?_) (fun g3 => ?_)
        · have g3 : lg_cmp g 1000000 ≤ 0 := g3
          rw [lg_cmp_le, Int64.le_iff_toInt_le, eg] at g3
          have ex : x = nI x.toInt.toNat := i_of h1.1
          have ey : y = nI y.toInt.toNat := i_of h2.1
          have el := (l2i (M := 1000000) (by omega) g3).1
          have hx3 : x.toInt.toNat < 3 := by omega
          have hy3 : y.toInt.toNat < 3 := by omega
          have hg1 : g.toInt.toNat ≤ 1000000 := by omega
          generalize hxn : x.toInt.toNat = xn at *
          generalize hyn : y.toInt.toNat = yn at *
          have e : (3 : Int32) * x + y = nI (3 * xn + yn) := by
            have e3 : (3 : Int32) * nI xn = nI (3 * xn) := pk_mul 3 xn
            rw [ex, ey, e3, nI_add]
          have Ho := hV.f S (i := 3 * xn + yn) (v := g.toInt.toNat)
          have hV12 : MV (uI m (rd 10) (3 * xn + yn) (nI g.toInt.toNat)) rd 1 A.2.1 := hV1.x S (by decide) (show 3 * xn + yn < 9 by omega)
          have e1 : uI m (rd 10) ((3 : Int32) * x + y).toNatClampNeg g.toInt32 = uI m (rd 10) (3 * xn + yn) (nI g.toInt.toNat) := by rw [e, nI_c (by omega), el]
          generalize hm1 : uI m (rd 10) (3 * xn + yn) (nI g.toInt.toNat) = m1 at Ho hV12 e1
          have hF1 : FM rd (fun k => 1 ≤ k ∧ k ≤ 10) m m1 := by rw [← hm1]; exact FM.uI k10 (by decide)
          have S1 := hF1.S S
          have hT := h.tell hF1 (fun k q => q) Ho (hR.feed hg1) hV12
          have kt := c_Mo_touch (l := l) (D := D) (ca := ca) S1
          rw [← e1] at kt
          refine And.intro (o0 S) ⟨some (rd 10), S.2.2 10 k10 (by decide), And.intro (S.ok k10) (And.intro ?_ ?_)⟩
          · show vp_in ((3 : Int32) * x + y) (m.2.1 (rd 10)).2
            rw [e]; exact vin_of (S.len k10) (show 3 * xn + yn < 18 by omega) (by decide)
          refine And.intro (show jm_ok (uI m (rd 10) ((3 : Int32) * x + y).toNatClampNeg g.toInt32) (rd 0) 6 from o0 S) (And.intro (Nat.le_of_ble_eq_true rfl) (And.intro (Nat.le_of_ble_eq_true rfl) ⟨0, 0, _, Nat.le_refl _, Nat.le_refl _, kt, fun v2 m' hq => ?_⟩))
          rw [e1] at hq
          obtain ⟨rfl, em'⟩ := hq
          exact ⟨Nat.le_refl _, Nat.le_refl _, Or.inr rfl, Or.inl ⟨rfl, ⟨⟨h1, h2⟩, by omega, g3⟩, by rw [em']; exact hT.1, by rw [em']; exact hT.2⟩⟩
        · have g3 : ¬ lg_cmp g 1000000 ≤ 0 := g3
          rw [lg_cmp_le, Int64.le_iff_toInt_le, eg] at g3
          exact ⟨Nat.le_refl _, Nat.le_refl _, Or.inl rfl, Or.inr ⟨rfl, fun z => by omega, rfl⟩⟩
    · rw [if_neg h2]
      refine And.intro (fun _ => ?_) (fun g => absurd rfl g)
      exact ⟨Nat.le_refl _, Nat.le_refl _, Or.inl rfl, Or.inr ⟨rfl, fun z => h2 z.1.2, rfl⟩⟩
  · rw [if_neg h1]
    refine And.intro (fun _ => ?_) (fun g => absurd rfl g)
    exact ⟨Nat.le_refl _, Nat.le_refl _, Or.inl rfl, Or.inr ⟨rfl, fun z => h1 z.1.1, rfl⟩⟩
end RB22
