theorem rSh_id (R : RD) (q : Nat) : rShare R q (R.A q) (R.B q) = R := by
  have e1 : va_up R.A q (R.A q) = R.A := by
    funext i
    by_cases w : i = q
    · subst w; rw [va_up_self]
    · rw [va_up_ne _ _ w]
  have e2 : va_up R.B q (R.B q) = R.B := by
    funext i
    by_cases w : i = q
    · subst w; rw [va_up_self]
    · rw [va_up_ne _ _ w]
  show (R.1, R.O, R.J, va_up R.A q (R.A q), va_up R.B q (R.B q), R.2.2.2.2.2) = R
  rw [e1, e2]
theorem va_up2 {α : Type} (f : Nat → α) (q : Nat) (x y : α) : va_up (va_up f q x) q y = va_up f q y := by
  funext i
  by_cases w : i = q
  · subst w; rw [va_up_self, va_up_self]
  · rw [va_up_ne _ _ w, va_up_ne _ _ w, va_up_ne _ _ w]
theorem rSh_two (R : RD) (q a b c e : Nat) : rShare (rShare R q a b) q c e = rShare R q c e := by
  show (R.1, R.O, R.J, va_up (va_up R.A q a) q c, va_up (va_up R.B q b) q e, R.2.2.2.2.2) = (R.1, R.O, R.J, va_up R.A q c, va_up R.B q e, R.2.2.2.2.2)
  rw [va_up2, va_up2]
theorem fit_sh {R : RD} {r a b c e : Nat} : fitR (rShare R (2 * r) a b) r 0 c e ↔ fitR R r 0 c e := by
  unfold fitR oth
  show c * va_up R.B (2 * r) b (2 * r + (1 - 0)) + va_up R.A (2 * r) a (2 * r + (1 - 0)) * e ≤ e * va_up R.B (2 * r) b (2 * r + (1 - 0)) ↔ _
  rw [va_up_ne _ _ (by omega), va_up_ne _ _ (by omega)]
abbrev rSt (A : RSt) (R : RD) : RSt := (R, A.2)
/-- one place of the shares told anew while trying: the turn goes on, kept stays -/
theorem MI.try {m : jm_M} {rd : Nat → Nat} {A : RSt} {n q a b : Nat} (h : MI m rd A n) (hq : q < 18) (hR : ROK (rShare A.1 q a b)) : FMa rd m (uI (uI (uI m (rd 5) q (nI a)) (rd 6) q (nI b)) (rd 33) 0 (m.2.2.1 (rd 33) 0 + 1)) ∧ MI (uI (uI (uI m (rd 5) q (nI a)) (rd 6) q (nI b)) (rd 33) 0 (m.2.2.1 (rd 33) 0 + 1)) rd (rSt A (rShare A.1 q a b)) (n + 1) := by
  have S := h.1
  have k0 : mkin 0 := Or.inl (by decide)
  have k5 : mkin 5 := Or.inl (by decide)
  have k6 : mkin 6 := Or.inl (by decide)
  have k33 : mkin 33 := Or.inr (Or.inr (Or.inr rfl))
  have hV : MV m rd 0 A.1 := (h.2.1 0 (by decide)).1
  have hV1 : MV m rd 1 A.2.1 := (h.2.1 1 (by decide)).1
  have H1 := hV.a S (i := q) (v := a)
  have G1 : MV (uI m (rd 5) q (nI a)) rd 1 A.2.1 := hV1.x S (by decide) hq
  have hF1 : FM rd (fun k => k = 5 ∨ k = 6 ∨ k = 33) m (uI m (rd 5) q (nI a)) := FM.uI k5 (Or.inl rfl)
  have S1 := hF1.S S
  have H2 := H1.b S1 (i := q) (v := b)
  have G2 : MV (uI (uI m (rd 5) q (nI a)) (rd 6) q (nI b)) rd 1 A.2.1 := G1.x S1 (by decide) hq
  have hF2 : FM rd (fun k => k = 5 ∨ k = 6 ∨ k = 33) m (uI (uI m (rd 5) q (nI a)) (rd 6) q (nI b)) := hF1.tr (FM.uI k6 (Or.inr (Or.inl rfl)))
  have S2 := hF2.S S
  have e33 : (uI (uI m (rd 5) q (nI a)) (rd 6) q (nI b)).2.2.1 (rd 33) = m.2.2.1 (rd 33) := by
    show va_up (va_up m.2.2.1 (rd 5) _) (rd 6) _ (rd 33) = _
    rw [va_up_ne _ _ (S.ne k33 k6 (by decide)), va_up_ne _ _ (S.ne k33 k5 (by decide))]
  have e0 : (uI (uI m (rd 5) q (nI a)) (rd 6) q (nI b)).2.2.1 (rd 0) = m.2.2.1 (rd 0) := by
    show va_up (va_up m.2.2.1 (rd 5) _) (rd 6) _ (rd 0) = _
    rw [va_up_ne _ _ (S.ne k0 k6 (by decide)), va_up_ne _ _ (S.ne k0 k5 (by decide))]
  generalize uI (uI m (rd 5) q (nI a)) (rd 6) q (nI b) = m2 at H2 G2 hF2 S2 e33 e0
  have hF3 : FM rd (fun k => k = 5 ∨ k = 6 ∨ k = 33) m2 (uI m2 (rd 33) 0 (m.2.2.1 (rd 33) 0 + 1)) := FM.uI k33 (Or.inr (Or.inr rfl))
  have f0 : (uI m2 (rd 33) 0 (m.2.2.1 (rd 33) 0 + 1)).2.2.1 (rd 0) = m2.2.2.1 (rd 0) := by
    show va_up m2.2.2.1 (rd 33) _ (rd 0) = _
    rw [va_up_ne _ _ (S2.ne k0 k33 (by decide))]
  have fk : ∀ k, 1 ≤ k → k ≤ 10 → (uI m2 (rd 33) 0 (m.2.2.1 (rd 33) 0 + 1)).2.2.1 (rd k) = m2.2.2.1 (rd k) := fun k h1 h2 => by
    show va_up m2.2.2.1 (rd 33) _ (rd k) = _
    rw [va_up_ne _ _ (S2.ne (Or.inl (by omega)) k33 (by omega))]
  have hF := hF2.tr hF3
  refine ⟨hF.a, h.tn hF (fun k w => by omega) (H2.mv (by rw [f0]) fk) hR (G2.mv (by rw [f0]) fk) (fun j _ => by rw [f0, e0]) ?_ ?_⟩
  · rw [f0, e0]; exact h.2.2.2.2.2.2.1
  · show va_up m2.2.2.1 (rd 33) (va_up (m2.2.2.1 (rd 33)) 0 _) (rd 33) = _
    rw [va_up_self, e33]
section RB32
variable {l : Launch} {D : va_G} {ca : Nat → ClassId}
def rfiT (R : RD) (x y : Int32) (g : Int64) : Prop := (isM R x ∧ isK R y ∧ 2 ≤ R.O x.toInt.toNat) ∧ 1 ≤ R.P ∧ 0 ≤ g.toInt ∧ g.toInt ≤ 1000000000
def rTry (R : RD) (j k t : Nat) : RD := rShare R (2 * (3 * j + k)) t 12
def rokF (R : RD) (j k g t : Nat) : Prop := fitR R (3 * j + k) 0 t 12 ∧ rbr (rTry R j k t) k g
def rnok (R : RD) (j k g t : Nat) : Prop := fitR R (3 * j + k) 0 t 12 → ¬ rbr (rTry R j k t) k g
def rfindQ (rd : Nat → Nat) (m : jm_M) (A : RSt) (n : Nat) (x y : Int32) (g : Int64) (v : Option Value) (m' : jm_M) : Prop :=
  (¬ rfiT A.1 x y g ∧ v = some (.int (-1)) ∧ m' = m) ∨
  (rfiT A.1 x y g ∧ FMa rd m m' ∧
    ((∃ t, t ≤ 12 ∧ v = some (.int (nI t)) ∧ rokF A.1 x.toInt.toNat y.toInt.toNat g.toInt.toNat t ∧ (∀ s, s < t → rnok A.1 x.toInt.toNat y.toInt.toNat g.toInt.toNat s) ∧ MI m' rd (rTry A.1 x.toInt.toNat y.toInt.toNat t, rTry A.1 x.toInt.toNat y.toInt.toNat t, A.2.2.1, A.2.2.2.1, A.2.2.2.2.1, true, true) (n + 15)) ∨
     (v = some (.int (-1)) ∧ (∀ s, s ≤ 12 → rnok A.1 x.toInt.toNat y.toInt.toNat g.toInt.toNat s) ∧ MI m' rd A (n + 15))))
theorem c_Mo_find {m0 : jm_M} {rd : Nat → Nat} {A : RSt} {n : Nat} (h0 : MI m0 rd A n) (hn : n + 15 < 2 ^ 31) (x y : Int32) (g : Int64) (hS : rfiT A.1 x y g → ∀ t, t ≤ 12 → fitR A.1 (3 * x.toInt.toNat + y.toInt.toNat) 0 t 12 → rStd (rTry A.1 x.toInt.toNat y.toInt.toNat t) → STD (rTry A.1 x.toInt.toNat y.toInt.toNat t)) : jm_C l D ca n_Mo_find [.ref (rd 0), .int x, .int y, .long g] m0 0 0 (rfindQ rd m0 A n x y g) := by
  refine jm_C_of (cd := cd_Mo_find) (ini := false) (by decide +kernel) ok_Mo_find (fun h => by cases h) (Nat.le_of_ble_eq_true rfl) ?_
  intro X hX
  have S0 := h0.1
  have o0 : ∀ {m : jm_M}, MST m rd → jm_ok m (rd 0) 6 := fun S => S.ok (Or.inl (by decide))
  have k2 : mkin 2 := Or.inl (by decide)
  have k3 : mkin 3 := Or.inl (by decide)
  have k5 : mkin 5 := Or.inl (by decide)
  have k6 : mkin 6 := Or.inl (by decide)
  have k33 : mkin 33 := Or.inr (Or.inr (Or.inr rfl))
  have hV : MV m0 rd 0 A.1 := (h0.2.1 0 (by decide)).1
  have hR : ROK A.1 := (h0.2.1 0 (by decide)).2
  have hM : A.1.M ≤ 3 := hR.2.1
  have hP : A.1.P ≤ 3 := hR.2.2.1
  have hK : 1 ≤ A.1.K ∧ A.1.K ≤ 3 := hR.1
  have eP : m0.2.2.1 (rd 2) 0 = nI A.1.P := hV.2.2.1
  have e0 : (0 : Int64).toInt = 0 := by decide
  have eg : (1000000000 : Int64).toInt = 1000000000 := by decide
  have no : ¬ rfiT A.1 x y g → X 49 [(0, .ref (rd 0)), (1, .int x), (2, .int y), (3, .long g)] [] m0 0 0 := fun hn => by
    refine jm_run hX [] 5 ?_
    exact ⟨Nat.le_refl _, Nat.le_refl _, trivial, Or.inl ⟨hn, rfl, rfl⟩⟩
  have k51 : rfiT A.1 x y g → X 51 [(0, .ref (rd 0)), (1, .int x), (2, .int y), (3, .long g)] [] m0 0 0 := fun hf => by
    have hS := hS hf
    have ex : x = nI x.toInt.toNat := i_of hf.1.1.1
    have ey : y = nI y.toInt.toNat := i_of hf.1.2.1.1
    have egl := (l2i (g := g) (M := 1000000000) hf.2.2.1 hf.2.2.2).2
    have hj : x.toInt.toNat < A.1.M := by have := hf.1.1; omega
    have hk : y.toInt.toNat < A.1.K := by have := hf.1.2.1; omega
    have hgg : g.toInt.toNat ≤ 1000000000 := by have := hf.2.2; omega
    have hfin : ∀ v m', FMa rd m0 m' → ((∃ t, t ≤ 12 ∧ v = some (.int (nI t)) ∧ rokF A.1 x.toInt.toNat y.toInt.toNat g.toInt.toNat t ∧ (∀ s, s < t → rnok A.1 x.toInt.toNat y.toInt.toNat g.toInt.toNat s) ∧ MI m' rd (rTry A.1 x.toInt.toNat y.toInt.toNat t, rTry A.1 x.toInt.toNat y.toInt.toNat t, A.2.2.1, A.2.2.2.1, A.2.2.2.2.1, true, true) (n + 15)) ∨ (v = some (.int (-1)) ∧ (∀ s, s ≤ 12 → rnok A.1 x.toInt.toNat y.toInt.toNat g.toInt.toNat s) ∧ MI m' rd A (n + 15))) → rfindQ rd m0 A n x y g v m' := fun v m' a b => Or.inr ⟨hf, a, b⟩
    generalize hpq : rfindQ rd m0 A n x y g = Q at *
    clear hf
    generalize hxn : x.toInt.toNat = j at *
    generalize hyn : y.toInt.toNat = k at *
    generalize hgn : g.toInt.toNat = gn at *
    have hj3 : j < 3 := by omega
    have hk3 : k < 3 := by omega
    have hq : 2 * (3 * j + k) < 18 := by omega
    have hAq := hR.2.2.2.2.2.1 (2 * (3 * j + k)) hq
    have e2 : (2 : Int32) * ((3 : Int32) * x + y) = nI (2 * (3 * j + k)) := by
      have e3 : (3 : Int32) * nI j = nI (3 * j) := pk_mul 3 j
      have e4 : (2 : Int32) * nI (3 * j + k) = nI (2 * (3 * j + k)) := pk_mul 2 _
      rw [ex, ey, e3, nI_add, e4]
    have hvq := hV.2.2.2.2.2.1 (2 * (3 * j + k)) hq
    rw [Nat.mul_zero, Nat.zero_add] at hvq
    have eA : m0.2.2.1 (rd 5) ((2 : Int32) * ((3 : Int32) * x + y)).toNatClampNeg = nI (A.1.A (2 * (3 * j + k))) := by rw [e2, nI_c (by omega)]; exact hvq.1
    have eB : m0.2.2.1 (rd 6) ((2 : Int32) * ((3 : Int32) * x + y)).toNatClampNeg = nI (A.1.B (2 * (3 * j + k))) := by rw [e2, nI_c (by omega)]; exact hvq.2
    have hin5 : ∀ {m : jm_M}, MST m rd → vp_in (nI (2 * (3 * j + k))) (m.2.1 (rd 5)).2 := fun S => vin_of (S.len k5) (show _ < 36 by omega) (by decide)
    have hin6 : ∀ {m : jm_M}, MST m rd → vp_in (nI (2 * (3 * j + k))) (m.2.1 (rd 6)).2 := fun S => vin_of (S.len k6) (show _ < 36 by omega) (by decide)
    have hin33 : ∀ {m : jm_M}, MST m rd → vp_in (nI 0) (m.2.1 (rd 33)).2 := fun S => vin_of (S.len k33) (by decide) (by decide)
    have loop : ∀ (e t : Nat), t + e = 13 → ∀ m a b, FMa rd m0 m → MI m rd (rSt A (rShare A.1 (2 * (3 * j + k)) a b)) (n + t) → (∀ s, s < t → rnok A.1 j k gn s) → X 81 [(0, .ref (rd 0)), (1, .int x), (2, .int y), (3, .long g), (5, .int (nI (2 * (3 * j + k)))), (6, .int (nI (A.1.A (2 * (3 * j + k))))), (7, .int (nI (A.1.B (2 * (3 * j + k))))), (8, .int (nI t))] [] m 0 0 := by
      intro e
      induction e with
      | zero =>
        intro t ht m a b hFa hI hno
        have S := hI.1
        have hR0 : ROK (rShare (rSt A (rShare A.1 (2 * (3 * j + k)) a b)).1 (2 * (3 * j + k)) (A.1.A (2 * (3 * j + k))) (A.1.B (2 * (3 * j + k)))) := by
          show ROK (rShare (rShare A.1 (2 * (3 * j + k)) a b) (2 * (3 * j + k)) (A.1.A (2 * (3 * j + k))) (A.1.B (2 * (3 * j + k))))
          rw [rSh_two, rSh_id]; exact hR
        have hT := hI.try hq hR0
        have eR : rSt (rSt A (rShare A.1 (2 * (3 * j + k)) a b)) (rShare (rSt A (rShare A.1 (2 * (3 * j + k)) a b)).1 (2 * (3 * j + k)) (A.1.A (2 * (3 * j + k))) (A.1.B (2 * (3 * j + k)))) = A := by
          show (rShare (rShare A.1 (2 * (3 * j + k)) a b) (2 * (3 * j + k)) (A.1.A (2 * (3 * j + k))) (A.1.B (2 * (3 * j + k))), A.2) = A
          rw [rSh_two, rSh_id]
        rw [eR] at hT
        refine jm_run hX [] 40 ?_
        refine And.intro (fun _ => ?_) (fun g => absurd (nI_lt (show 12 < t by omega) (by omega)) g)
        refine And.intro (o0 S) ⟨some (rd 5), S.2.2 5 k5 (by decide), And.intro (S.ok k5) (And.intro (hin5 S) ?_)⟩
        refine And.intro (o0 S) ⟨some (rd 6), S.2.2 6 k6 (by decide), And.intro (S.ok k6) (And.intro (hin6 S) ?_)⟩
        refine And.intro (o0 S) ⟨some (rd 33), S.2.2 33 k33 (by decide), And.intro rfl (And.intro rfl (And.intro (S.ok k33) (And.intro (hin33 S) (And.intro (S.ok k33) (And.intro (hin33 S) ?_)))))⟩
        have em : uI (uI (uI m (rd 5) (nI (2 * (3 * j + k))).toNatClampNeg (nI (A.1.A (2 * (3 * j + k))))) (rd 6) (nI (2 * (3 * j + k))).toNatClampNeg (nI (A.1.B (2 * (3 * j + k))))) (rd 33) 0 ((uI (uI m (rd 5) (nI (2 * (3 * j + k))).toNatClampNeg (nI (A.1.A (2 * (3 * j + k))))) (rd 6) (nI (2 * (3 * j + k))).toNatClampNeg (nI (A.1.B (2 * (3 * j + k))))).2.2.1 (rd 33) 0 + 1) = uI (uI (uI m (rd 5) (2 * (3 * j + k)) (nI (A.1.A (2 * (3 * j + k))))) (rd 6) (2 * (3 * j + k)) (nI (A.1.B (2 * (3 * j + k))))) (rd 33) 0 (m.2.2.1 (rd 33) 0 + 1) := by
          rw [nI_c (by omega), uI_ne (m := uI m (rd 5) (2 * (3 * j + k)) (nI (A.1.A (2 * (3 * j + k))))) S k6 k33 (Or.inl (by decide)), uI_ne S k5 k33 (Or.inl (by decide))]
        rw [← em] at hT
        exact ⟨Nat.le_refl _, Nat.le_refl _, trivial, hfin _ _ (hFa.tr hT.1) (Or.inr ⟨rfl, fun s hs => hno s (by omega), hT.2.mono (by omega)⟩)⟩
      | succ e ih =>
        intro t ht m a b hFa hI hno
        have S := hI.1
        have hRc : ROK (rShare A.1 (2 * (3 * j + k)) a b) := (hI.2.1 0 (by decide)).2
        have k159 : ∀ m' a b, FMa rd m0 m' → MI m' rd (rSt A (rShare A.1 (2 * (3 * j + k)) a b)) (n + (t + 1)) → rnok A.1 j k gn t → X 159 [(0, .ref (rd 0)), (1, .int x), (2, .int y), (3, .long g), (5, .int (nI (2 * (3 * j + k)))), (6, .int (nI (A.1.A (2 * (3 * j + k))))), (7, .int (nI (A.1.B (2 * (3 * j + k))))), (8, .int (nI t))] [] m' 0 0 := fun m' a b h1 h2 h3 => by
          have kk := ih (t + 1) (by omega) m' a b h1 h2 (fun s hs => by
            by_cases w : s = t
            · subst w; exact h3
            · exact hno s (by omega))
          rw [← nI_1] at kk
          refine jm_run hX [(81, [0, 1, 2, 3, 5, 6, 7, 8])] 5 ?_
          exact kk
        have kf := c_Mo_fits (l := l) (D := D) (ca := ca) (o := 0) (a := t) (b := 12) S (hI.2.1 0 (by decide)).1 hRc hj3 hk3 (by decide) (by omega) (by decide)
        have e12 : (nI t).toInt64 = lN t := nI_l (by omega)
        rw [← e12, ← ex, ← ey] at kf
        refine jm_run hX [(104, [0, 1, 2, 3, 5, 6, 7, 8]), (159, [0, 1, 2, 3, 5, 6, 7, 8])] 30 ?_
        refine And.intro (fun g => absurd (show nI 12 < nI t from g) (nI_nlt (by omega) (by omega))) (fun _ => ?_)
        refine And.intro (o0 S) (And.intro (Nat.le_of_ble_eq_true rfl) (And.intro (Nat.le_of_ble_eq_true rfl) ⟨0, 0, _, Nat.le_refl _, Nat.le_refl _, kf, fun v m' hq => ?_⟩))
        obtain ⟨ee, hq⟩ := hq
        have ee := ee.symm
        subst ee
        rcases hq with ⟨rfl, hfit⟩ | ⟨rfl, hfit⟩
        · refine And.intro (fun g => absurd g (by decide)) (fun _ => ?_)
          have hfit : fitR A.1 (3 * j + k) 0 t 12 := fit_sh.mp hfit
          have hRt : ROK (rTry A.1 j k t) := hR.share (r := 3 * j + k) (o := 0) (by omega) (by decide) (by decide) (by omega) hfit
          have hRt2 : ROK (rShare (rSt A (rShare A.1 (2 * (3 * j + k)) a b)).1 (2 * (3 * j + k)) t 12) := by
            show ROK (rShare (rShare A.1 (2 * (3 * j + k)) a b) (2 * (3 * j + k)) t 12)
            rw [rSh_two]; exact hRt
          have hT := hI.try hq hRt2
          have eR : rSt (rSt A (rShare A.1 (2 * (3 * j + k)) a b)) (rShare (rSt A (rShare A.1 (2 * (3 * j + k)) a b)).1 (2 * (3 * j + k)) t 12) = rSt A (rTry A.1 j k t) := by
            show (rShare (rShare A.1 (2 * (3 * j + k)) a b) (2 * (3 * j + k)) t 12, A.2) = _
            rw [rSh_two]; rfl
          rw [eR] at hT
          have em : uI (uI (uI m (rd 5) (nI (2 * (3 * j + k))).toNatClampNeg (nI t)) (rd 6) (nI (2 * (3 * j + k))).toNatClampNeg (nI 12)) (rd 33) 0 ((uI (uI m (rd 5) (nI (2 * (3 * j + k))).toNatClampNeg (nI t)) (rd 6) (nI (2 * (3 * j + k))).toNatClampNeg (nI 12)).2.2.1 (rd 33) 0 + 1) = uI (uI (uI m (rd 5) (2 * (3 * j + k)) (nI t)) (rd 6) (2 * (3 * j + k)) (nI 12)) (rd 33) 0 (m.2.2.1 (rd 33) 0 + 1) := by
            rw [nI_c (by omega), uI_ne (m := uI m (rd 5) (2 * (3 * j + k)) (nI t)) S k6 k33 (Or.inl (by decide)), uI_ne S k5 k33 (Or.inl (by decide))]
          have k132 : ∀ m2, FMa rd m0 m2 → MI m2 rd (rSt A (rTry A.1 j k t)) (n + t + 1) → X 132 [(0, .ref (rd 0)), (1, .int x), (2, .int y), (3, .long g), (5, .int (nI (2 * (3 * j + k)))), (6, .int (nI (A.1.A (2 * (3 * j + k))))), (7, .int (nI (A.1.B (2 * (3 * j + k))))), (8, .int (nI t))] [] m2 0 0 := fun m2 hFa2 hI2 => by
            have S2 := hI2.1
            have kb := c_Mo_brings (l := l) (D := D) (ca := ca) (k := k) (g := gn) hI2 (by omega) hgg (fun hs => ⟨hS t (by omega) hfit hs, (hS t (by omega) hfit hs).q62 (by decide) _⟩)
            rw [← ey, ← egl] at kb
            refine jm_run hX [(159, [0, 1, 2, 3, 5, 6, 7, 8])] 30 ?_
            refine And.intro (o0 S2) (And.intro (Nat.le_of_ble_eq_true rfl) (And.intro (Nat.le_of_ble_eq_true rfl) ⟨0, 0, _, Nat.le_refl _, Nat.le_refl _, kb, fun v m3 hq => ?_⟩))
            obtain ⟨hF3, hI3, hq⟩ := hq
            rcases hq with ⟨rfl, hbr⟩ | ⟨rfl, hbr⟩
            · refine And.intro (fun g => absurd g (by decide)) (fun _ => ?_)
              have S3 := hI3.1
              refine And.intro (o0 S3) (And.intro (Nat.le_of_ble_eq_true rfl) (And.intro (Nat.le_of_ble_eq_true rfl) ⟨0, 0, _, Nat.le_refl _, Nat.le_refl _, c_Mo_solve hI3, fun v m4 hq => ?_⟩))
              rcases hq with ⟨rfl, h1, h2, h3⟩ | ⟨j2, hj2, rfl, h1, h2, h3, h4⟩
              · refine And.intro (fun _ => ?_) (fun g => absurd rfl g)
                exact ⟨Nat.le_refl _, Nat.le_refl _, trivial, hfin _ _ ((hFa2.tr hF3).tr h2) (Or.inl ⟨t, by omega, rfl, ⟨hfit, hbr⟩, hno, h3.mono (by omega)⟩)⟩
              · exact absurd h1 (hbr.1 j2 hj2)
            · refine And.intro (fun _ => ?_) (fun g => absurd rfl g)
              exact k159 m3 t 12 (hFa2.tr hF3) hI3 (fun _ => hbr)
          have k104 : X 104 [(0, .ref (rd 0)), (1, .int x), (2, .int y), (3, .long g), (5, .int (nI (2 * (3 * j + k)))), (6, .int (nI (A.1.A (2 * (3 * j + k))))), (7, .int (nI (A.1.B (2 * (3 * j + k))))), (8, .int (nI t))] [] m 0 0 := by
            have kk := k132 _ (hFa.tr hT.1) hT.2
            rw [← em] at kk
            refine jm_run hX [(132, [0, 1, 2, 3, 5, 6, 7, 8])] 40 ?_
            refine And.intro (o0 S) ⟨some (rd 5), S.2.2 5 k5 (by decide), And.intro (S.ok k5) (And.intro (hin5 S) ?_)⟩
            refine And.intro (o0 S) ⟨some (rd 6), S.2.2 6 k6 (by decide), And.intro (S.ok k6) (And.intro (hin6 S) ?_)⟩
            refine And.intro (o0 S) ⟨some (rd 33), S.2.2 33 k33 (by decide), And.intro rfl (And.intro rfl (And.intro (S.ok k33) (And.intro (hin33 S) (And.intro (S.ok k33) (And.intro (hin33 S) ?_)))))⟩
            exact kk
          exact k104
        · refine And.intro (fun _ => ?_) (fun g => absurd rfl g)
          exact k159 m a b hFa (hI.mono (by omega)) (fun q => absurd (fit_sh.mpr q) hfit)
    have hI00 : MI m0 rd (rSt A (rShare A.1 (2 * (3 * j + k)) (A.1.A (2 * (3 * j + k))) (A.1.B (2 * (3 * j + k))))) (n + 0) := by
      rw [rSh_id]; exact h0
    have kk := loop 13 0 (by omega) m0 _ _ FM.rf hI00 (fun s hs => absurd hs (by omega))
    rw [← eA, ← eB, ← e2] at kk
    refine jm_run hX [(81, [0, 1, 2, 3, 5, 6, 7, 8])] 40 ?_
    refine And.intro (o0 S0) ⟨some (rd 5), S0.2.2 5 k5 (by decide), And.intro (S0.ok k5) (And.intro ?_ ?_)⟩
    · show vp_in ((2 : Int32) * ((3 : Int32) * x + y)) (m0.2.1 (rd 5)).2
      rw [e2]; exact hin5 S0
    refine And.intro (o0 S0) ⟨some (rd 6), S0.2.2 6 k6 (by decide), And.intro (S0.ok k6) (And.intro ?_ ?_)⟩
    · show vp_in ((2 : Int32) * ((3 : Int32) * x + y)) (m0.2.1 (rd 6)).2
      rw [e2]; exact hin6 S0
    exact kk
  refine jm_run hX [(49, [0, 1, 2, 3]), (51, [0, 1, 2, 3])] 60 ?_
  refine And.intro (o0 S0) (And.intro (Nat.le_of_ble_eq_true rfl) (And.intro (Nat.le_of_ble_eq_true rfl) ⟨0, 0, _, Nat.le_refl _, Nat.le_refl _, c_Mo_isMachine h0 x, fun v m' hq => ?_⟩))
  obtain ⟨ee, rfl⟩ := hq
  have ee := ee.symm
  subst ee
  by_cases h1 : isM A.1 x
  · rw [if_pos h1]
    refine And.intro (fun g => absurd g (by decide)) (fun _ => ?_)
    refine And.intro (o0 S0) (And.intro (Nat.le_of_ble_eq_true rfl) (And.intro (Nat.le_of_ble_eq_true rfl) ⟨0, 0, _, Nat.le_refl _, Nat.le_refl _, c_Mo_isKind h0 y, fun v m' hq => ?_⟩))
    obtain ⟨ee, rfl⟩ := hq
    have ee := ee.symm
    subst ee
    by_cases h2 : isK A.1 y
    · rw [if_pos h2]
      refine And.intro (fun g => absurd g (by decide)) (fun _ => ?_)
      refine And.intro (fun g2 => ?_) (fun g2 => ?_)
      · have g2 : lg_cmp g 0 < 0 := g2
        rw [lg_cmp_lt, Int64.lt_iff_toInt_lt, e0] at g2
        exact no (fun q => absurd q.2.2.1 (by omega))
      have g2 : ¬ lg_cmp g 0 < 0 := g2
      rw [lg_cmp_lt, Int64.lt_iff_toInt_lt, e0] at g2
      refine And.intro (fun g3 => ?_) (fun g3 => ?_)
      · have g3 : 0 < lg_cmp g 1000000000 := g3
        rw [lg_cmp_gt, Int64.lt_iff_toInt_lt, eg] at g3
        exact no (fun q => absurd q.2.2.2 (by omega))
      have g3 : ¬ 0 < lg_cmp g 1000000000 := g3
      rw [lg_cmp_gt, Int64.lt_iff_toInt_lt, eg] at g3
      have hou : 1 ≤ A.1.O x.toInt.toNat ∧ A.1.O x.toInt.toNat ≤ 3 := hR.2.2.2.1 x.toInt.toNat (by omega)
      have ex : x = nI x.toInt.toNat := i_of h1.1
      have hin : vp_in x (m0.2.1 (rd 3)).2 := by rw [ex]; exact vin_of (S0.len k3) (show x.toInt.toNat < 6 by omega) (by decide)
      have eo : m0.2.2.1 (rd 3) x.toNatClampNeg = nI (A.1.O x.toInt.toNat) := by
        have e2 : x.toNatClampNeg = x.toInt.toNat := by
          conv => lhs; rw [ex]
          exact nI_c (by omega)
        rw [e2]
        have := hV.2.2.2.1 x.toInt.toNat (by omega)
        rw [Nat.mul_zero, Nat.zero_add] at this
        exact this
      refine And.intro (o0 S0) ⟨some (rd 3), S0.2.2 3 k3 (by decide), And.intro (S0.ok k3) (And.intro hin ?_)⟩
      refine And.intro (fun g4 => ?_) (fun g4 => ?_)
      · have g4 : m0.2.2.1 (rd 3) x.toNatClampNeg < nI 2 := g4
        rw [eo, nI_ltI (by omega) (by decide)] at g4
        exact no (fun q => absurd q.1.2.2 (by omega))
      have g4 : ¬ m0.2.2.1 (rd 3) x.toNatClampNeg < nI 2 := g4
      rw [eo, nI_ltI (by omega) (by decide)] at g4
      refine And.intro (o0 S0) ⟨some (rd 2), S0.2.2 2 k2 (by decide), And.intro (S0.ok k2) (And.intro (show vp_in (nI 0) (m0.2.1 (rd 2)).2 from vin_of (S0.len k2) (by decide) (by decide)) ?_)⟩
      refine And.intro (fun g5 => ?_) (fun g5 => ?_)
      · have g5 : m0.2.2.1 (rd 2) 0 = nI 0 := g5
        rw [eP, nI_eq (by omega) (by decide)] at g5
        exact no (fun q => absurd q.2.1 (by omega))
      · have g5 : ¬ m0.2.2.1 (rd 2) 0 = nI 0 := g5
        rw [eP, nI_eq (by omega) (by decide)] at g5
        exact k51 ⟨⟨h1, h2, by omega⟩, by omega, by omega, by omega⟩
    · rw [if_neg h2]
      refine And.intro (fun _ => ?_) (fun g => absurd rfl g)
      exact no (fun q => h2 q.1.2.1)
  · rw [if_neg h1]
    refine And.intro (fun _ => ?_) (fun g => absurd rfl g)
    exact no (fun q => h1 q.1.1)
end RB32
