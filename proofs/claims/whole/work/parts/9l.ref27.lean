section RB28
variable {l : Launch} {D : va_G} {ca : Nat → ClassId}
/-- what stands once an amount is gathered as TOP -/
def AMQ (m : jm_M) (rd : Nat → Nat) (A : RSt) (n f : Nat) (w : Nat → Nat) (m' : jm_M) : Prop := FMa rd m m' ∧ MI m' rd A n ∧ ∃ V, bgv (m'.2.2.2.1 (rd 25)) V ∧ V 0 = rAm (A.ln f) w ∧ V 1 = rDT (A.ln f)
def lwt (R : RD) (j : Nat) (q : Nat) : Nat := if q / 3 = j ∧ q % 3 < R.K then rWv R q else 0
theorem c_Mo_reckonLoad {m : jm_M} {rd : Nat → Nat} {A : RSt} {n j : Nat} (h : MI m rd A n) (hn : n < 2 ^ 31) (hSt : STD A.2.1) (hj : j < A.2.1.M) : jm_C l D ca n_Mo_reckonLoad [.ref (rd 0), .int (nI j)] m 0 0 (fun v m' => v = none ∧ AMQ m rd A n 1 (lwt A.2.1 j) m') := by
  refine jm_C_of (cd := cd_Mo_reckonLoad) (ini := false) (by decide +kernel) ok_Mo_reckonLoad (fun h => by cases h) (Nat.le_of_ble_eq_true rfl) ?_
  intro X hX
  have S := h.1
  have o0 : ∀ {m : jm_M}, MST m rd → jm_ok m (rd 0) 6 := fun S => S.ok (Or.inl (by decide))
  have k0 : mkin 0 := Or.inl (by decide)
  have k17 : mkin 17 := Or.inr (Or.inl (by decide))
  have k25 : mkin 25 := Or.inr (Or.inl (by decide))
  have k30 : mkin 30 := Or.inr (Or.inr (Or.inl rfl))
  have hR1 : ROK A.2.1 := (h.2.1 1 (by decide)).2
  have hM : A.2.1.M ≤ 3 := hR1.2.1
  have hK : 1 ≤ A.2.1.K ∧ A.2.1.K ≤ 3 := hR1.1
  have eq3 : ∀ k, (3 : Int32) * nI j + nI k = nI (3 * j + k) := fun k => by
    have : (3 : Int32) * nI j = nI (3 * j) := pk_mul 3 j
    rw [this, nI_add]
  have hwb : ∀ q, q < 9 → lwt A.2.1 j q ≤ 2 ^ 24 := fun q hq => by
    unfold lwt
    split
    · have := rWv_le hR1 hq; omega
    · exact Nat.zero_le _
  refine jm_run hX [(7, [0, 1, 2])] 20 ?_
  refine And.intro (o0 S) (And.intro (Nat.le_of_ble_eq_true rfl) (And.intro (Nat.le_of_ble_eq_true rfl) ⟨0, 0, _, Nat.le_refl _, Nat.le_refl _, c_Mo_prepare h hn (f := 1) (by decide) hSt, fun v m1 hq => ?_⟩))
  obtain ⟨rfl, hFa1, hI1, hL1, hC1, ⟨V1, hb1, hv1⟩, hw1⟩ := hq
  have hL1 : LAY m1 rd A.2.1 := hL1
  have hC1 : CCR m1 rd A.2.1 := hC1
  have hv1 : V1 1 = rDT A.2.1 := hv1
  have S1 := hI1.1
  have loop : ∀ (e k : Nat), k + e = A.2.1.K → ∀ m2, FM rd p30 m1 m2 → lrow (m2.2.2.2.1 (rd 30)) (fun q => if q / 3 = j ∧ q % 3 < k then rWv A.2.1 q else 0) 9 → X 7 [(0, .ref (rd 0)), (1, .int (nI j)), (2, .int (nI k))] [] m2 0 0 := by
    intro e
    induction e with
    | zero =>
      intro k hk m2 hF2 hw2
      have hkk : k = A.2.1.K := by omega
      subst hkk
      have S2 := hF2.S S1
      have g25 : m2.2.2.2.1 (rd 25) = m1.2.2.2.1 (rd 25) := (hF2.at S1 k25 (by decide)).2
      have hI2 : MI m2 rd A n := hI1.mv hF2 (fun k w => by have : k = 30 := w; omega) (fun j _ _ => by rw [(hF2.at S1 k0 (by decide)).1]) ⟨_, by rw [g25]; exact hb1⟩
      have hV2 : MV m2 rd 1 A.2.1 := (hI2.2.1 1 (by decide)).1
      have hC2 : CCR m2 rd A.2.1 := hC1.mv (hF2.at S1 (Or.inr (Or.inl (by decide))) (by decide)).2 (hF2.at S1 (Or.inr (Or.inl (by decide))) (by decide)).2
      have hfd : ∀ i, i < 9 → m2.2.2.1 (rd 10) (9 * 1 + i) = nI (A.2.1.F i) ∧ A.2.1.F i ≤ 1000000 := fun i hi => ⟨(hV2.2.2.2.2.2.2 i hi).2.2.2, hR1.2.2.2.2.2.2.2.2.2 i hi⟩
      have kg := c_Mo_gatherAmount (l := l) (D := D) (ca := ca) (f := 1) (n := 0) (wt := lwt A.2.1 j) (Xv := rAm A.2.1 (lwt A.2.1 j)) S2 hI2.2.2.1 hC2 (by rw [g25]; exact hb1) hw2 (fun q hq => Nat.lt_of_le_of_lt (hwb q hq) (by decide)) (by decide) hfd (by decide) (hSt.am _) (sp24 (hSt.alt hwb))
      refine jm_run hX [] 20 ?_
      refine And.intro (o0 S2) ?_
      refine And.intro (fun _ => ?_) (fun g => absurd (show m2.2.2.1 (rd 0) 0 ≤ nI A.2.1.K from by rw [hV2.1]; exact nI_le (Nat.le_refl _) (by omega)) g)
      refine And.intro (o0 S2) (And.intro (Nat.le_of_ble_eq_true rfl) (And.intro (Nat.le_of_ble_eq_true rfl) ⟨0, 0, _, Nat.le_refl _, Nat.le_refl _, kg, fun v m3 hq => ?_⟩))
      obtain ⟨rfl, hF3, hb3⟩ := hq
      have S3 := hF3.S S2
      have hI3 : MI m3 rd A n := hI2.mv hF3 (fun k w => by omega) (fun j _ _ => by rw [(hF3.at S2 k0 (by decide)).1]) ⟨_, hb3⟩
      exact ⟨Nat.le_refl _, Nat.le_refl _, trivial, rfl, (hFa1.tr hF2.a).tr hF3.a, hI3, _, hb3, va_up_self _ _ _, by rw [va_up_ne _ _ (by decide)]; exact hv1⟩
    | succ e ih =>
      intro k hk m2 hF2 hw2
      have S2 := hF2.S S1
      have hL2 := hL1.fm S1 hF2 (fun k w w2 => by show ¬ k = 30; omega)
      have hV2 : MV m2 rd 1 A.2.1 := (hI1.2.1 1 (by decide)).1.fm S1 hF2 (fun k w => by have : k = 30 := w; omega)
      have hin30 : vp_in ((3 : Int32) * nI j + nI k) (m2.2.1 (rd 30)).2 := by rw [eq3]; exact vin_of (S2.len k30) (show 3 * j + k < 9 by omega) (by decide)
      have hin17 : vp_in ((3 : Int32) * nI j + nI k) (m2.2.1 (rd 17)).2 := by rw [eq3]; exact vin_of (S2.len k17) (show 3 * j + k < 9 by omega) (by decide)
      have ew : m2.2.2.2.1 (rd 17) ((3 : Int32) * nI j + nI k).toNatClampNeg = lN (rWv A.2.1 (3 * j + k)) := by rw [eq3, nI_c (by omega), hL2.1 _ (by omega)]
      refine jm_run hX [(7, [0, 1, 2])] 30 ?_
      refine And.intro (o0 S2) ?_
      refine And.intro (fun g => absurd (show m2.2.2.1 (rd 0) 0 ≤ nI k from g) (by rw [hV2.1]; exact nI_ge (by omega) (by omega))) (fun _ => ?_)
      refine And.intro (o0 S2) ⟨some (rd 30), S2.2.2 30 k30 (by decide), And.intro (o0 S2) ⟨some (rd 17), S2.2.2 17 k17 (by decide), And.intro (S2.ok k17) (And.intro hin17 (And.intro (S2.ok k30) (And.intro hin30 ?_)))⟩⟩
      have hF3 : FM rd p30 m1 (uJ m2 (rd 30) ((3 : Int32) * nI j + nI k).toNatClampNeg (m2.2.2.2.1 (rd 17) ((3 : Int32) * nI j + nI k).toNatClampNeg)) := hF2.tr (FM.uJ k30 rfl)
      have kk := ih (k + 1) (by omega) _ hF3 (fun i hi => by
        show va_up m2.2.2.2.1 (rd 30) (va_up (m2.2.2.2.1 (rd 30)) _ _) (rd 30) i = _
        rw [va_up_self, ew, eq3, nI_c (by omega)]
        by_cases w : i = 3 * j + k
        · subst w
          rw [va_up_self]
          dsimp only
          rw [if_pos (by omega)]
        · rw [va_up_ne _ _ w, hw2 i hi]
          dsimp only
          by_cases w2 : i / 3 = j ∧ i % 3 < k
          · rw [if_pos w2, if_pos (by omega)]
          · rw [if_neg w2, if_neg (by omega)])
      rw [← nI_1] at kk
      exact kk
  exact loop A.2.1.K 0 (by omega) m1 FM.rf (fun i hi => by rw [hw1 i hi]; dsimp only; rw [if_neg (by omega)])
def rloadC (A : RSt) (x z : Int32) : Prop := A.2.2.2.2.2.1 = true ∧ (0 ≤ x.toInt ∧ x.toInt < (A.2.1.M : Int)) ∧ 0 ≤ z.toInt ∧ z.toInt ≤ 6
theorem c_Mo_load {m : jm_M} {rd : Nat → Nat} {A : RSt} {n : Nat} (h : MI m rd A n) (hn : n < 2 ^ 31) (hS : A.2.2.2.2.2.1 = true → STD A.2.1) (x z : Int32) : jm_C l D ca n_Mo_load [.ref (rd 0), .int x, .int z] m 0 0 (fun v m' => FMa rd m m' ∧ MI m' rd A n ∧ ((rloadC A x z ∧ v = some (.long (amtA A.2.1 (lwt A.2.1 x.toInt.toNat) z.toInt.toNat))) ∨ (¬ rloadC A x z ∧ v = some (.long (-1))))) := by
  refine jm_C_of (cd := cd_Mo_load) (ini := false) (by decide +kernel) ok_Mo_load (fun h => by cases h) (Nat.le_of_ble_eq_true rfl) ?_
  intro X hX
  have S := h.1
  have o0 : ∀ {m : jm_M}, MST m rd → jm_ok m (rd 0) 6 := fun S => S.ok (Or.inl (by decide))
  have k1 : mkin 1 := Or.inl (by decide)
  have hV1 : MV m rd 1 A.2.1 := (h.2.1 1 (by decide)).1
  have hR1 : ROK A.2.1 := (h.2.1 1 (by decide)).2
  have hM : A.2.1.M ≤ 3 := hR1.2.1
  have e14 : m.2.2.1 (rd 0) 14 = bI A.2.2.2.2.2.1 := h.2.2.2.2.2.1
  have eM : m.2.2.1 (rd 1) 1 = nI A.2.1.M := hV1.2.1
  have no : ¬ rloadC A x z → X 31 [(0, .ref (rd 0)), (1, .int x), (2, .int z)] [] m 0 0 := fun hn => by
    refine jm_run hX [] 5 ?_
    exact ⟨Nat.le_refl _, Nat.le_refl _, trivial, FM.rf, h, Or.inr ⟨hn, rfl⟩⟩
  refine jm_run hX [(31, [0, 1, 2]), (35, [0, 1, 2])] 60 ?_
  refine And.intro (o0 S) ?_
  refine And.intro (fun g => ?_) (fun g => ?_)
  · have g : m.2.2.1 (rd 0) 14 = 0 := g
    rw [e14, bI_eq0] at g
    exact no (fun q => by rw [q.1] at g; cases g)
  have g : ¬ m.2.2.1 (rd 0) 14 = 0 := g
  rw [e14, bI_eq0, Bool.not_eq_false] at g
  refine And.intro (fun g2 => ?_) (fun g2 => ?_)
  · rw [ilt0] at g2
    exact no (fun q => absurd q.2.1.1 (by omega))
  rw [ilt0] at g2
  refine And.intro (o0 S) ⟨some (rd 1), S.2.2 1 k1 (by decide), And.intro (S.ok k1) (And.intro (show vp_in (nI 1) (m.2.1 (rd 1)).2 from vin_of (S.len k1) (by decide) (by decide)) ?_)⟩
  refine And.intro (fun g3 => ?_) (fun g3 => ?_)
  · have g3 : m.2.2.1 (rd 1) 1 ≤ x := g3
    rw [eM, ileN (by omega)] at g3
    exact no (fun q => absurd q.2.1.2 (by omega))
  have g3 : ¬ m.2.2.1 (rd 1) 1 ≤ x := g3
  rw [eM, ileN (by omega)] at g3
  refine And.intro (fun g4 => ?_) (fun g4 => ?_)
  · rw [ilt0] at g4
    exact no (fun q => absurd q.2.2.1 (by omega))
  rw [ilt0] at g4
  refine And.intro (fun g5 => ?_) (fun g5 => ?_)
  · have g5 : z ≤ nI 6 := g5
    rw [iNle (by decide)] at g5
    have hall : rloadC A x z := ⟨g, ⟨by omega, by omega⟩, by omega, by omega⟩
    have hSt := hS g
    have ex : x = nI x.toInt.toNat := i_of (by omega)
    have k35 : X 35 [(0, .ref (rd 0)), (1, .int x), (2, .int z)] [] m 0 0 := by
      have kr := c_Mo_reckonLoad (l := l) (D := D) (ca := ca) (j := x.toInt.toNat) h hn hSt (by omega)
      rw [← ex] at kr
      refine jm_run hX [] 60 ?_
      refine And.intro (o0 S) (And.intro (Nat.le_of_ble_eq_true rfl) (And.intro (Nat.le_of_ble_eq_true rfl) ⟨0, 0, _, Nat.le_refl _, Nat.le_refl _, kr, fun v m3 hq => ?_⟩))
      obtain ⟨rfl, hFa3, hI3, V3, hb3, v0, v1⟩ := hq
      have v0 : V3 0 = rAm A.2.1 (lwt A.2.1 x.toInt.toNat) := v0
      have v1 : V3 1 = rDT A.2.1 := v1
      have S3 := hI3.1
      have kp := c_Mo_partOf (l := l) (D := D) (ca := ca) (bl := false) S3 hb3 (by rw [v1]; exact (hSt.d (rfd A.2.1)).2) (by rw [v1]; exact sp22 hSt.dlt) z ⟨by omega, by omega⟩
      refine And.intro (o0 S3) (And.intro (Nat.le_of_ble_eq_true rfl) (And.intro (Nat.le_of_ble_eq_true rfl) ⟨0, 0, _, Nat.le_refl _, Nat.le_refl _, kp, fun v m4 hq => ?_⟩))
      obtain ⟨rfl, hF4, hIO, hb4⟩ := hq
      have hI4 : MI m4 rd A n := hI3.mv hF4 (fun k w => by omega) (fun j q1 q2 => hIO j q1 q2) hb4
      refine ⟨Nat.le_refl _, Nat.le_refl _, trivial, hFa3.tr hF4.a, hI4, Or.inl ⟨hall, ?_⟩⟩
      rw [v0, v1]; rfl
    exact k35
  · have g5 : ¬ z ≤ nI 6 := g5
    rw [iNle (by decide)] at g5
    exact no (fun q => absurd q.2.2.2 (by omega))
/-- outside its span -/
def rovB (A : RSt) (j : Nat) : Bool := A.2.2.1 j && (decide (rAm A.2.1 (lwt A.2.1 j) < A.2.2.2.1 j * rDT A.2.1) || decide (A.2.2.2.2.1 j * rDT A.2.1 < rAm A.2.1 (lwt A.2.1 j)))
theorem ov_div {a d lo hi : Nat} (hd : 0 < d) : (a < lo * d ↔ a / d < lo) ∧ (hi * d < a ↔ hi < a / d ∨ (a / d = hi ∧ a % d ≠ 0)) := by
  have h1 := Nat.div_add_mod a d
  have h2 := Nat.mod_lt a hd
  constructor
  · exact (Nat.div_lt_iff_lt_mul hd).symm
  · constructor
    · intro h
      have h3 : hi ≤ a / d := (Nat.le_div_iff_mul_le hd).mpr (by omega)
      rcases Nat.lt_or_ge hi (a / d) with w | w
      · exact Or.inl w
      · have e : a / d = hi := by omega
        refine Or.inr ⟨e, fun z => ?_⟩
        rw [e, z, Nat.mul_comm] at h1
        omega
    · rintro (w | ⟨e, z⟩)
      · have := Nat.mul_le_mul_left d (show hi + 1 ≤ a / d from w)
        rw [Nat.mul_add, Nat.mul_one, Nat.mul_comm d hi] at this
        omega
      · rw [e, Nat.mul_comm] at h1
        omega
theorem c_Mo_isOver {m : jm_M} {rd : Nat → Nat} {A : RSt} {n j : Nat} (h : MI m rd A n) (hn : n < 2 ^ 31) (hSt : STD A.2.1) (hj : j < A.2.1.M) : jm_C l D ca n_Mo_isOver [.ref (rd 0), .int (nI j)] m 0 0 (fun v m' => v = some (.int (bI (rovB A j))) ∧ FMa rd m m' ∧ MI m' rd A n) := by
  refine jm_C_of (cd := cd_Mo_isOver) (ini := false) (by decide +kernel) ok_Mo_isOver (fun h => by cases h) (Nat.le_of_ble_eq_true rfl) ?_
  intro X hX
  have S := h.1
  have o0 : ∀ {m : jm_M}, MST m rd → jm_ok m (rd 0) 6 := fun S => S.ok (Or.inl (by decide))
  have k11 : mkin 11 := Or.inl (by decide)
  have k12 : mkin 12 := Or.inl (by decide)
  have k13 : mkin 13 := Or.inl (by decide)
  have hR1 : ROK A.2.1 := (h.2.1 1 (by decide)).2
  have hM : A.2.1.M ≤ 3 := hR1.2.1
  have hj3 : j < 3 := by omega
  have hin : ∀ {m : jm_M} (k : Nat), MST m rd → mkin k → (mkd k).2 = 3 → vp_in (nI j) (m.2.1 (rd k)).2 := fun k S hk h18 => vin_of ((S.len hk).trans h18) hj3 (by decide)
  have e11 : m.2.2.1 (rd 11) (nI j).toNatClampNeg = bI (A.2.2.1 j) := by rw [nI_c (by omega)]; exact (h.2.2.2.2.1 j hj3).1
  refine jm_run hX [(11, [0, 1])] 20 ?_
  refine And.intro (o0 S) ⟨some (rd 11), S.2.2 11 k11 (by decide), And.intro (S.ok k11) (And.intro (hin 11 S k11 rfl) ?_)⟩
  refine And.intro (fun g => ?_) (fun g => ?_)
  · have g : m.2.2.1 (rd 11) (nI j).toNatClampNeg = 0 := g
    rw [e11, bI_eq0] at g
    refine ⟨Nat.le_refl _, Nat.le_refl _, Or.inl rfl, ?_, FM.rf, h⟩
    have : rovB A j = false := by unfold rovB; rw [g]; rfl
    rw [this]; rfl
  · have g : ¬ m.2.2.1 (rd 11) (nI j).toNatClampNeg = 0 := g
    rw [e11, bI_eq0, Bool.not_eq_false] at g
    have k11' : X 11 [(0, .ref (rd 0)), (1, .int (nI j))] [] m 0 0 := by
      have kr := c_Mo_reckonLoad (l := l) (D := D) (ca := ca) (j := j) h hn hSt hj
      refine jm_run hX [(22, [0, 1, 2])] 60 ?_
      refine And.intro (o0 S) (And.intro (Nat.le_of_ble_eq_true rfl) (And.intro (Nat.le_of_ble_eq_true rfl) ⟨0, 0, _, Nat.le_refl _, Nat.le_refl _, kr, fun v m3 hq => ?_⟩))
      obtain ⟨rfl, hFa3, hI3, V3, hb3, v0, v1⟩ := hq
      have v0 : V3 0 = rAm A.2.1 (lwt A.2.1 j) := v0
      have v1 : V3 1 = rDT A.2.1 := v1
      have S3 := hI3.1
      have hd := (hSt.d (rfd A.2.1)).2
      have kd := c_Mo_divide (l := l) (D := D) (ca := ca) (n := 0) S3 hb3 (by decide) (by decide) (by rw [v1]; exact hd) (by rw [v1]; exact Nat.lt_of_lt_of_le (sp22 hSt.dlt) (Nat.pow_le_pow_right (by decide) (by decide)))
      refine And.intro (o0 S3) (And.intro (Nat.le_of_ble_eq_true rfl) (And.intro (Nat.le_of_ble_eq_true rfl) ⟨0, 0, _, Nat.le_refl _, Nat.le_refl _, kd, fun v m4 hq => ?_⟩))
      obtain ⟨rfl, hF4, hIO, h29, hb4⟩ := hq
      rw [v0, v1] at h29 hb4
      have hI4 : MI m4 rd A n := hI3.mv hF4 (fun k w => by omega) (fun j q1 q2 => hIO j q1 q2) ⟨_, hb4⟩
      have S4 := hI4.1
      have hov : rovB A j = (decide (rAm A.2.1 (lwt A.2.1 j) < A.2.2.2.1 j * rDT A.2.1) || decide (A.2.2.2.2.1 j * rDT A.2.1 < rAm A.2.1 (lwt A.2.1 j))) := by unfold rovB; rw [g]; rfl
      have hdv := ov_div (a := rAm A.2.1 (lwt A.2.1 j)) (lo := A.2.2.2.1 j) (hi := A.2.2.2.2.1 j) hd
      have s4 := hI4.2.2.2.2.1 j hj3
      generalize hqv : rAm A.2.1 (lwt A.2.1 j) / rDT A.2.1 = qv at *
      generalize hrv : rAm A.2.1 (lwt A.2.1 j) % rDT A.2.1 = rv at *
      have hbo : rovB A j = true ↔ qv < A.2.2.2.1 j ∨ A.2.2.2.2.1 j < qv ∨ (qv = A.2.2.2.2.1 j ∧ rv ≠ 0) := by
        rw [hov, Bool.or_eq_true, decide_eq_true_iff, decide_eq_true_iff, hdv.1, hdv.2]
      have fin : FMa rd m m4 := hFa3.tr hF4.a
      have yes : (qv < A.2.2.2.1 j ∨ A.2.2.2.2.1 j < qv ∨ (qv = A.2.2.2.2.1 j ∧ rv ≠ 0)) → X 70 [(0, .ref (rd 0)), (1, .int (nI j)), (2, .long (lN qv))] [] m4 0 0 := fun hy => by
        refine jm_run hX [] 5 ?_
        refine ⟨Nat.le_refl _, Nat.le_refl _, Or.inr rfl, ?_, fin, hI4⟩
        rw [hbo.mpr hy]; rfl
      have nope : ¬ (qv < A.2.2.2.1 j ∨ A.2.2.2.2.1 j < qv ∨ (qv = A.2.2.2.2.1 j ∧ rv ≠ 0)) → X 74 [(0, .ref (rd 0)), (1, .int (nI j)), (2, .long (lN qv))] [] m4 0 0 := fun hy => by
        refine jm_run hX [] 5 ?_
        refine ⟨Nat.le_refl _, Nat.le_refl _, Or.inl rfl, ?_, fin, hI4⟩
        have : rovB A j = false := by
          rw [← Bool.not_eq_true]
          exact fun z => hy (hbo.mp z)
        rw [this]; rfl
      have e12 : m4.2.2.2.1 (rd 12) (nI j).toNatClampNeg = lN (A.2.2.2.1 j) := by rw [nI_c (by omega)]; exact s4.2.1
      have e13 : m4.2.2.2.1 (rd 13) (nI j).toNatClampNeg = lN (A.2.2.2.2.1 j) := by rw [nI_c (by omega)]; exact s4.2.2.1
      have k22 : X 22 [(0, .ref (rd 0)), (1, .int (nI j)), (2, .long (lN qv))] [] m4 0 0 := by
        refine jm_run hX [(70, [0, 1, 2]), (74, [0, 1, 2])] 60 ?_
        refine And.intro (o0 S4) ?_
        refine And.intro (fun g1 => ?_) (fun g1 => ?_)
        · have g1 : m4.2.2.1 (rd 0) 29 = 0 := g1
          rw [h29, bI_eq0, decide_eq_false_iff_not] at g1
          refine And.intro (o0 S4) ⟨some (rd 12), S4.2.2 12 k12 (by decide), And.intro (S4.ok k12) (And.intro (hin 12 S4 k12 rfl) ?_)⟩
          refine And.intro (fun g2 => ?_) (fun g2 => ?_)
          · have g2 : lg_cmp (lN qv) (m4.2.2.2.1 (rd 12) (nI j).toNatClampNeg) < 0 := g2
            rw [e12, lg_cmp_lt, pk_lLT (by omega) (by omega)] at g2
            exact yes (Or.inl g2)
          have g2 : ¬ lg_cmp (lN qv) (m4.2.2.2.1 (rd 12) (nI j).toNatClampNeg) < 0 := g2
          rw [e12, lg_cmp_lt, pk_lLT (by omega) (by omega)] at g2
          refine And.intro (o0 S4) ⟨some (rd 13), S4.2.2 13 k13 (by decide), And.intro (S4.ok k13) (And.intro (hin 13 S4 k13 rfl) ?_)⟩
          refine And.intro (fun g3 => ?_) (fun g3 => ?_)
          · have g3 : 0 < lg_cmp (lN qv) (m4.2.2.2.1 (rd 13) (nI j).toNatClampNeg) := g3
            rw [e13, lg_cmp_gt, pk_lLT (by omega) (by omega)] at g3
            exact yes (Or.inr (Or.inl g3))
          have g3 : ¬ 0 < lg_cmp (lN qv) (m4.2.2.2.1 (rd 13) (nI j).toNatClampNeg) := g3
          rw [e13, lg_cmp_gt, pk_lLT (by omega) (by omega)] at g3
          refine And.intro (o0 S4) ⟨some (rd 13), S4.2.2 13 k13 (by decide), And.intro (S4.ok k13) (And.intro (hin 13 S4 k13 rfl) ?_)⟩
          refine And.intro (fun g4 => ?_) (fun g4 => ?_)
          · have g4 : lg_cmp (lN qv) (m4.2.2.2.1 (rd 13) (nI j).toNatClampNeg) = 0 := g4
            rw [e13, lg_cmp_eq, pk_lEQ (by omega) (by omega)] at g4
            have kz := c_Mo_isZero (l := l) (D := D) (ca := ca) (n := 2) S4 hb4 (by decide)
            refine And.intro (o0 S4) (And.intro (Nat.le_of_ble_eq_true rfl) (And.intro (Nat.le_of_ble_eq_true rfl) ⟨0, 0, _, Nat.le_refl _, Nat.le_refl _, kz, fun v m5 hq => ?_⟩))
            obtain ⟨ee, rfl⟩ := hq
            have ee := ee.symm
            subst ee
            rw [va_up_self]
            by_cases w : rv = 0
            · rw [if_pos w]
              exact And.intro (fun g => absurd g (by decide)) (fun _ => nope (by omega))
            · rw [if_neg w]
              exact And.intro (fun _ => yes (Or.inr (Or.inr ⟨g4, w⟩))) (fun g => absurd rfl g)
          · have g4 : ¬ lg_cmp (lN qv) (m4.2.2.2.1 (rd 13) (nI j).toNatClampNeg) = 0 := g4
            rw [e13, lg_cmp_eq, pk_lEQ (by omega) (by omega)] at g4
            exact nope (by omega)
        · have g1 : ¬ m4.2.2.1 (rd 0) 29 = 0 := g1
          rw [h29, bI_eq0, Bool.not_eq_false, decide_eq_true_iff] at g1
          exact yes (Or.inr (Or.inl (by omega)))
      have ek : V3 0 / V3 1 = qv := by rw [v0, v1]; exact hqv
      rw [ek]
      exact k22
    exact k11'
end RB28
