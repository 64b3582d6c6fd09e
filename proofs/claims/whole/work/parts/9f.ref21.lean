def rShare (R : RD) (q a b : Nat) : RD := rShB (rShA R q a) q b
def rCrush (R : RD) (r t a b : Nat) : RD := rCrE (rCrC (rCrT R r t) r a) r b
theorem jOK_mo {M M' P P' : Nat} {t : Int32} (h : jOK M P t) (h1 : M ≤ M') (h2 : P ≤ P') : jOK M' P' t := by
  unfold jOK at h ⊢
  omega
section ROKS
variable {R : RD}
theorem ROK.mach (h : ROK R) {v : Nat} (hM : R.M < 3) (hv : 1 ≤ v ∧ v ≤ 3) : ROK (rMach R v) := by
  obtain ⟨a1, a2, a3, a4, a5, a6⟩ := h
  refine ⟨a1, hM, a3, fun j hj => ?_, fun i hi => jOK_mo (a5 i hi) (Nat.le_succ _) (Nat.le_refl _), a6⟩
  show 1 ≤ va_up R.O R.M v j ∧ va_up R.O R.M v j ≤ 3
  by_cases w : j = R.M
  · subst w; rw [va_up_self]; exact hv
  · rw [va_up_ne _ _ w]; exact a4 j (by have : j < R.M + 1 := hj; omega)
theorem ROK.port (h : ROK R) (hP : R.P < 3) : ROK (rPort R) := by
  obtain ⟨a1, a2, a3, a4, a5, a6⟩ := h
  exact ⟨a1, a2, hP, a4, fun i hi => jOK_mo (a5 i hi) (Nat.le_refl _) (Nat.le_succ _), a6⟩
theorem ROK.join (h : ROK R) {i : Nat} {t : Int32} (ht : jOK R.M R.P t) : ROK (rJoin R i t) := by
  obtain ⟨a1, a2, a3, a4, a5, a6⟩ := h
  refine ⟨a1, a2, a3, a4, fun j hj => ?_, a6⟩
  show jOK R.M R.P (va_up R.J i t j)
  by_cases w : j = i
  · subst w; rw [va_up_self]; exact ht
  · rw [va_up_ne _ _ w]; exact a5 j hj
theorem ROK.feed (h : ROK R) {i g : Nat} (hg : g ≤ 1000000) : ROK (rFee R i g) := by
  obtain ⟨a1, a2, a3, a4, a5, a6, a7, a8, a9, a10⟩ := h
  refine ⟨a1, a2, a3, a4, a5, a6, a7, a8, a9, fun r hr => ?_⟩
  show va_up R.F i g r ≤ 1000000
  by_cases w : r = i
  · subst w; rw [va_up_self]; exact hg
  · rw [va_up_ne _ _ w]; exact a10 r hr
theorem ROK.crush (h : ROK R) {j k t a b : Nat} (hj : j < 3) (hk : k < 3) (ht : t < R.K) (htk : t ≠ k) (hb : 1 ≤ b ∧ b ≤ 12) (ha : a ≤ b) : ROK (rCrush R (3 * j + k) t a b) := by
  obtain ⟨a1, a2, a3, a4, a5, a6, a7, a8, a9, a10⟩ := h
  refine ⟨a1, a2, a3, a4, a5, a6, a7, fun r hr => ?_, fun j2 k2 hj2 hk2 => ?_, a10⟩
  · show va_up R.T (3 * j + k) t r < R.K ∧ (1 ≤ va_up R.E (3 * j + k) b r ∧ va_up R.E (3 * j + k) b r ≤ 12) ∧ va_up R.C (3 * j + k) a r ≤ va_up R.E (3 * j + k) b r
    by_cases w : r = 3 * j + k
    · subst w; rw [va_up_self, va_up_self, va_up_self]; exact ⟨ht, hb, ha⟩
    · rw [va_up_ne _ _ w, va_up_ne _ _ w, va_up_ne _ _ w]; exact a8 r hr
  · show 0 < va_up R.C (3 * j + k) a (3 * j2 + k2) → va_up R.T (3 * j + k) t (3 * j2 + k2) ≠ k2
    by_cases w : 3 * j2 + k2 = 3 * j + k
    · rw [w, va_up_self, va_up_self]
      intro _
      omega
    · rw [va_up_ne _ _ w, va_up_ne _ _ w]; exact a9 j2 k2 hj2 hk2
/-- the other out's share -/
def oth (r o : Nat) : Nat := 2 * r + (1 - o)
def fitR (R : RD) (r o a b : Nat) : Prop := a * R.B (oth r o) + R.A (oth r o) * b ≤ b * R.B (oth r o)
theorem ROK.share (h : ROK R) {r o a b : Nat} (hr : r < 9) (ho : o < 2) (hb : 1 ≤ b ∧ b ≤ 12) (ha : a ≤ b) (hf : fitR R r o a b) : ROK (rShare R (2 * r + o) a b) := by
  obtain ⟨a1, a2, a3, a4, a5, a6, a7, a8, a9, a10⟩ := h
  refine ⟨a1, a2, a3, a4, a5, fun q hq => ?_, fun r2 hr2 => ?_, a8, a9, a10⟩
  · show (1 ≤ va_up R.B (2 * r + o) b q ∧ va_up R.B (2 * r + o) b q ≤ 12) ∧ va_up R.A (2 * r + o) a q ≤ va_up R.B (2 * r + o) b q
    by_cases w : q = 2 * r + o
    · subst w; rw [va_up_self, va_up_self]; exact ⟨hb, ha⟩
    · rw [va_up_ne _ _ w, va_up_ne _ _ w]; exact a6 q hq
  · show va_up R.A (2 * r + o) a (2 * r2) * va_up R.B (2 * r + o) b (2 * r2 + 1) + va_up R.A (2 * r + o) a (2 * r2 + 1) * va_up R.B (2 * r + o) b (2 * r2) ≤ va_up R.B (2 * r + o) b (2 * r2) * va_up R.B (2 * r + o) b (2 * r2 + 1)
    by_cases w : r2 = r
    · subst w
      unfold fitR oth at hf
      rcases (show o = 0 ∨ o = 1 by omega) with z | z
      · subst z
        have n1 : 2 * r2 + 1 ≠ 2 * r2 + 0 := by omega
        have e0 : 2 * r2 = 2 * r2 + 0 := rfl
        rw [va_up_ne _ _ n1, va_up_ne _ _ n1]
        rw [show va_up R.A (2 * r2 + 0) a (2 * r2) = a from va_up_self _ _ _, show va_up R.B (2 * r2 + 0) b (2 * r2) = b from va_up_self _ _ _]
        rw [show 2 * r2 + (1 - 0) = 2 * r2 + 1 by omega] at hf
        exact hf
      · subst z
        have n1 : 2 * r2 ≠ 2 * r2 + 1 := by omega
        rw [va_up_self, va_up_self, va_up_ne _ _ n1, va_up_ne _ _ n1]
        rw [show 2 * r2 + (1 - 1) = 2 * r2 by omega] at hf
        rw [Nat.mul_comm (R.B (2 * r2)) b]
        omega
    · rw [va_up_ne _ _ (show 2 * r2 ≠ 2 * r + o by omega), va_up_ne _ _ (show 2 * r2 + 1 ≠ 2 * r + o by omega), va_up_ne _ _ (show 2 * r2 + 1 ≠ 2 * r + o by omega), va_up_ne _ _ (show 2 * r2 ≠ 2 * r + o by omega)]
      exact a7 r2 hr2
end ROKS
section RB21
variable {l : Launch} {D : va_G} {ca : Nat → ClassId}
abbrev rTold (A : RSt) (R : RD) : RSt := (R, A.2.1, A.2.2.1, A.2.2.2.1, A.2.2.2.2.1, A.2.2.2.2.2.1, false)
theorem c_Mo_machine {m : jm_M} {rd : Nat → Nat} {A : RSt} {n : Nat} (h : MI m rd A n) (x : Int32) : jm_C l D ca n_Mo_machine [.ref (rd 0), .int x] m 0 0 (fun v m' => (v = some (.int (nI A.1.M)) ∧ A.1.M < 3 ∧ (1 ≤ x.toInt ∧ x.toInt ≤ 3) ∧ FMa rd m m' ∧ MI m' rd (rTold A (rMach A.1 x.toInt.toNat)) (n + 1)) ∨ (v = some (.int (-1)) ∧ ¬ (A.1.M < 3 ∧ (1 ≤ x.toInt ∧ x.toInt ≤ 3)) ∧ m' = m)) := by
  refine jm_C_of (cd := cd_Mo_machine) (ini := false) (by decide +kernel) ok_Mo_machine (fun h => by cases h) (Nat.le_of_ble_eq_true rfl) ?_
  intro X hX
  have S := h.1
  have hV : MV m rd 0 A.1 := (h.2.1 0 (by decide)).1
  have hR : ROK A.1 := (h.2.1 0 (by decide)).2
  have hV1 : MV m rd 1 A.2.1 := (h.2.1 1 (by decide)).1
  have hM : A.1.M ≤ 3 := hR.2.1
  have o0 : ∀ {m : jm_M}, MST m rd → jm_ok m (rd 0) 6 := fun S => S.ok (Or.inl (by decide))
  have k1 : mkin 1 := Or.inl (by decide)
  have k3 : mkin 3 := Or.inl (by decide)
  have hin1 : ∀ {m : jm_M}, MST m rd → vp_in (nI 0) (m.2.1 (rd 1)).2 := fun S => vin_of (S.len k1) (by decide) (by decide)
  have eM : m.2.2.1 (rd 1) 0 = nI A.1.M := hV.2.1
  have no : ¬ (A.1.M < 3 ∧ (1 ≤ x.toInt ∧ x.toInt ≤ 3)) → X 20 [(0, .ref (rd 0)), (1, .int x)] [] m 0 0 := fun hn => by
    refine jm_run hX [] 5 ?_
    exact ⟨Nat.le_refl _, Nat.le_refl _, trivial, Or.inr ⟨rfl, hn, rfl⟩⟩
  refine jm_run hX [(20, [0, 1]), (22, [0, 1])] 40 ?_
  refine And.intro (o0 S) ⟨some (rd 1), S.2.2 1 k1 (by decide), And.intro (S.ok k1) (And.intro (hin1 S) ?_)⟩
  refine And.intro (fun g => ?_) (fun g => ?_)
  · have g : m.2.2.1 (rd 1) 0 = nI 3 := g
    rw [eM, nI_eq (by omega) (by decide)] at g
    exact no (fun z => by omega)
  · have g : ¬ m.2.2.1 (rd 1) 0 = nI 3 := g
    rw [eM, nI_eq (by omega) (by decide)] at g
    refine And.intro (fun g2 => ?_) (fun g2 => ?_)
    · have g2 : x < nI 1 := g2
      rw [← Int32.not_le, ileN (by decide)] at g2
      exact no (fun z => by omega)
    · have g2 : ¬ x < nI 1 := g2
      rw [← Int32.not_le, Decidable.not_not, ileN (by decide)] at g2
      refine And.intro (fun g3 => ?_) (fun g3 => ?_)
      · have g3 : x ≤ nI 3 := g3
        rw [iNle (by decide)] at g3
        have ex : x = nI x.toInt.toNat := i_of (by omega)
        generalize hv : x.toInt.toNat = v at *
        have hv3 : 1 ≤ v ∧ v ≤ 3 := by omega
        have hx1 : 1 ≤ x.toInt ∧ x.toInt ≤ 3 := by omega
        have g2' := g2
        clear g2
        have Ho := hV.o S (i := A.1.M) (v := v)
        generalize hm1 : uI m (rd 3) A.1.M (nI v) = m1 at Ho
        have hF1 : FM rd (fun k => 1 ≤ k ∧ k ≤ 10) m m1 := by rw [← hm1]; exact FM.uI k3 (by decide)
        have S1 := hF1.S S
        have hV11 : MV m1 rd 1 A.2.1 := by rw [← hm1]; exact hV1.x S (by decide) (show A.1.M < 3 by omega)
        have Hm := Ho.mm S1
        have hV12 : MV (uI m1 (rd 1) 0 (nI (A.1.M + 1))) rd 1 A.2.1 := hV11.x S1 (by decide) (show 0 < 1 by decide)
        generalize hm2 : uI m1 (rd 1) 0 (nI (A.1.M + 1)) = m2 at hV12
        have hm2' : uI m1 (rd 1) 0 (nI ((rOut A.1 A.1.M v).M + 1)) = m2 := hm2
        rw [hm2'] at Hm
        have hF2 : FM rd (fun k => 1 ≤ k ∧ k ≤ 10) m m2 := hF1.tr (by rw [← hm2]; exact FM.uI k1 (by decide))
        have S2 := hF2.S S
        have hT := h.tell hF2 (fun k q => q) Hm (hR.mach (by omega) hv3) hV12
        have eM1 : m1.2.2.1 (rd 1) 0 = nI A.1.M := Ho.2.1
        have kt := c_Mo_touch (l := l) (D := D) (ca := ca) S2
        have e1 : uI m (rd 3) (m.2.2.1 (rd 1) 0).toNatClampNeg x = m1 := by rw [eM, nI_c (by omega), ex]; exact hm1
        have e2 : uI m1 (rd 1) 0 (m1.2.2.1 (rd 1) 0 + 1) = m2 := by rw [eM1, nI_1]; exact hm2
        have k44 : X 44 [(0, .ref (rd 0)), (1, .int x)] [] m2 0 0 := by
          refine jm_run hX [] 20 ?_
          refine And.intro (o0 S2) (And.intro (Nat.le_of_ble_eq_true rfl) (And.intro (Nat.le_of_ble_eq_true rfl) ⟨0, 0, _, Nat.le_refl _, Nat.le_refl _, kt, fun v2 m' hq => ?_⟩))
          obtain ⟨rfl, em'⟩ := hq
          have S3 : MST m' rd := by rw [em']; exact hT.2.1
          have eM3 : m'.2.2.1 (rd 1) 0 = nI (A.1.M + 1) := by rw [em']; exact (hT.2.2.1 0 (by decide)).1.2.1
          refine And.intro (o0 S3) ⟨some (rd 1), S3.2.2 1 k1 (by decide), And.intro (S3.ok k1) (And.intro (hin1 S3) ?_)⟩
          refine ⟨Nat.le_refl _, Nat.le_refl _, trivial, Or.inl ⟨?_, by omega, hx1, by rw [em']; exact hT.1, by rw [em']; exact hT.2⟩⟩
          show some (Value.int (m'.2.2.1 (rd 1) 0 - 1)) = _
          rw [eM3]
          exact congrArg (fun z => some (Value.int z)) (nI_pred _)
        have k34 : X 34 [(0, .ref (rd 0)), (1, .int x)] [] m1 0 0 := by
          rw [← e2] at k44
          refine jm_run hX [(44, [0, 1])] 20 ?_
          exact And.intro (o0 S1) ⟨some (rd 1), S1.2.2 1 k1 (by decide), And.intro rfl (And.intro rfl (And.intro (S1.ok k1) (And.intro (hin1 S1) (And.intro (S1.ok k1) (And.intro (hin1 S1) k44)))))⟩
        have k22 : X 22 [(0, .ref (rd 0)), (1, .int x)] [] m 0 0 := by
          rw [← e1] at k34
          refine jm_run hX [(34, [0, 1])] 20 ?_
          refine And.intro (o0 S) ⟨some (rd 3), S.2.2 3 k3 (by decide), And.intro (o0 S) ⟨some (rd 1), S.2.2 1 k1 (by decide), And.intro (S.ok k1) (And.intro (hin1 S) (And.intro (S.ok k3) (And.intro ?_ k34)))⟩⟩
          show vp_in (m.2.2.1 (rd 1) 0) (m.2.1 (rd 3)).2
          rw [eM]; exact vin_of (S.len k3) (show A.1.M < 6 by omega) (by decide)
        exact k22
      · have g3 : ¬ x ≤ nI 3 := g3
        rw [iNle (by decide)] at g3
        exact no (fun z => by omega)
theorem c_Mo_port {m : jm_M} {rd : Nat → Nat} {A : RSt} {n : Nat} (h : MI m rd A n) : jm_C l D ca n_Mo_port [.ref (rd 0)] m 0 0 (fun v m' => (v = some (.int (nI A.1.P)) ∧ A.1.P < 3 ∧ FMa rd m m' ∧ MI m' rd (rTold A (rPort A.1)) (n + 1)) ∨ (v = some (.int (-1)) ∧ ¬ A.1.P < 3 ∧ m' = m)) := by
  refine jm_C_of (cd := cd_Mo_port) (ini := false) (by decide +kernel) ok_Mo_port (fun h => by cases h) (Nat.le_of_ble_eq_true rfl) ?_
  intro X hX
  have S := h.1
  have hV : MV m rd 0 A.1 := (h.2.1 0 (by decide)).1
  have hR : ROK A.1 := (h.2.1 0 (by decide)).2
  have hV1 : MV m rd 1 A.2.1 := (h.2.1 1 (by decide)).1
  have hP : A.1.P ≤ 3 := hR.2.2.1
  have o0 : ∀ {m : jm_M}, MST m rd → jm_ok m (rd 0) 6 := fun S => S.ok (Or.inl (by decide))
  have k2 : mkin 2 := Or.inl (by decide)
  have hin1 : ∀ {m : jm_M}, MST m rd → vp_in (nI 0) (m.2.1 (rd 2)).2 := fun S => vin_of (S.len k2) (by decide) (by decide)
  have eM : m.2.2.1 (rd 2) 0 = nI A.1.P := hV.2.2.1
  refine jm_run hX [(12, [0])] 40 ?_
  refine And.intro (o0 S) ⟨some (rd 2), S.2.2 2 k2 (by decide), And.intro (S.ok k2) (And.intro (hin1 S) ?_)⟩
  refine And.intro (fun g => ?_) (fun g => ?_)
  · have g : m.2.2.1 (rd 2) 0 = nI 3 := g
    rw [eM, nI_eq (by omega) (by decide)] at g
    exact ⟨Nat.le_refl _, Nat.le_refl _, trivial, Or.inr ⟨rfl, by omega, rfl⟩⟩
  · have g : ¬ m.2.2.1 (rd 2) 0 = nI 3 := g
    rw [eM, nI_eq (by omega) (by decide)] at g
    have Hm := hV.pp S
    have hV12 : MV (uI m (rd 2) 0 (nI (A.1.P + 1))) rd 1 A.2.1 := hV1.x S (by decide) (show 0 < 1 by decide)
    generalize hm2 : uI m (rd 2) 0 (nI (A.1.P + 1)) = m2 at hV12 Hm
    have hF2 : FM rd (fun k => 1 ≤ k ∧ k ≤ 10) m m2 := by rw [← hm2]; exact FM.uI k2 (by decide)
    have S2 := hF2.S S
    have hT := h.tell hF2 (fun k q => q) Hm (hR.port (by omega)) hV12
    have kt := c_Mo_touch (l := l) (D := D) (ca := ca) S2
    have e2 : uI m (rd 2) 0 (m.2.2.1 (rd 2) 0 + 1) = m2 := by rw [eM, nI_1]; exact hm2
    have k44 : X 22 [(0, .ref (rd 0))] [] m2 0 0 := by
      refine jm_run hX [] 20 ?_
      refine And.intro (o0 S2) (And.intro (Nat.le_of_ble_eq_true rfl) (And.intro (Nat.le_of_ble_eq_true rfl) ⟨0, 0, _, Nat.le_refl _, Nat.le_refl _, kt, fun v2 m' hq => ?_⟩))
      obtain ⟨rfl, em'⟩ := hq
      have S3 : MST m' rd := by rw [em']; exact hT.2.1
      have eM3 : m'.2.2.1 (rd 2) 0 = nI (A.1.P + 1) := by rw [em']; exact (hT.2.2.1 0 (by decide)).1.2.2.1
      refine And.intro (o0 S3) ⟨some (rd 2), S3.2.2 2 k2 (by decide), And.intro (S3.ok k2) (And.intro (hin1 S3) ?_)⟩
      refine ⟨Nat.le_refl _, Nat.le_refl _, trivial, Or.inl ⟨?_, by omega, by rw [em']; exact hT.1, by rw [em']; exact hT.2⟩⟩
      show some (Value.int (m'.2.2.1 (rd 2) 0 - 1)) = _
      rw [eM3]
      exact congrArg (fun z => some (Value.int z)) (nI_pred _)
    have k34 : X 12 [(0, .ref (rd 0))] [] m 0 0 := by
      rw [← e2] at k44
      refine jm_run hX [(22, [0])] 20 ?_
      exact And.intro (o0 S) ⟨some (rd 2), S.2.2 2 k2 (by decide), And.intro rfl (And.intro rfl (And.intro (S.ok k2) (And.intro (hin1 S) (And.intro (S.ok k2) (And.intro (hin1 S) k44)))))⟩
    exact k34
end RB21
