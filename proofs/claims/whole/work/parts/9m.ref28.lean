section RB29
variable {l : Launch} {D : va_G} {ca : Nat → ClassId}
def rovK (A : RSt) (j : Nat) : Bool := A.2.2.2.2.2.1 && (decide (j < A.2.1.M) && rovB A j)
theorem overR_no {B : Nat → Bool} {x : Int32} : ∀ {e j f : Nat}, (∀ i, j ≤ i → i < j + e → B i = false) → overR B x e j f = -1
  | 0, _, _, _ => rfl
  | e + 1, j, f, h => by
    show (if B j = true then (if nI f = x then nI j else overR B x e (j + 1) (f + 1)) else overR B x e (j + 1) f) = -1
    rw [h j (by omega) (by omega), if_neg (by decide)]
    exact overR_no (fun i h1 h2 => h i (by omega) (by omega))
theorem c_Mo_over {m0 : jm_M} {rd : Nat → Nat} {A : RSt} {n : Nat} (h0 : MI m0 rd A n) (hn : n < 2 ^ 31) (hS : A.2.2.2.2.2.1 = true → STD A.2.1) (x : Int32) : jm_C l D ca n_Mo_over [.ref (rd 0), .int x] m0 0 0 (fun v m' => FMa rd m0 m' ∧ MI m' rd A n ∧ v = some (.int (overR (rovK A) x 3 0 0))) := by
  refine jm_C_of (cd := cd_Mo_over) (ini := false) (by decide +kernel) ok_Mo_over (fun h => by cases h) (Nat.le_of_ble_eq_true rfl) ?_
  intro X hX
  have o0 : ∀ {m : jm_M}, MST m rd → jm_ok m (rd 0) 6 := fun S => S.ok (Or.inl (by decide))
  have k1 : mkin 1 := Or.inl (by decide)
  have hR1 : ROK A.2.1 := (h0.2.1 1 (by decide)).2
  have hM : A.2.1.M ≤ 3 := hR1.2.1
  have loop : ∀ (e j f : Nat) (m : jm_M), j + e = 3 → MI m rd A n → FMa rd m0 m → overR (rovK A) x 3 0 0 = overR (rovK A) x e j f → X 4 [(0, .ref (rd 0)), (1, .int x), (2, .int (nI f)), (3, .int (nI j))] [] m 0 0 := by
    intro e
    induction e with
    | zero =>
      intro j f m hj hI hF ho
      have S := hI.1
      have eM : m.2.2.1 (rd 1) 1 = nI A.2.1.M := (hI.2.1 1 (by decide)).1.2.1
      refine jm_run hX [] 20 ?_
      refine And.intro (o0 S) ⟨some (rd 1), S.2.2 1 k1 (by decide), And.intro (S.ok k1) (And.intro (show vp_in (nI 1) (m.2.1 (rd 1)).2 from vin_of (S.len k1) (by decide) (by decide)) ?_)⟩
      refine And.intro (fun _ => ?_) (fun g => absurd (show m.2.2.1 (rd 1) 1 ≤ nI j from by rw [eM]; exact nI_le (by omega) (by omega)) g)
      exact ⟨Nat.le_refl _, Nat.le_refl _, trivial, hF, hI, by rw [ho]; rfl⟩
    | succ e ih =>
      intro j f m hj hI hF ho
      have S := hI.1
      have eM : m.2.2.1 (rd 1) 1 = nI A.2.1.M := (hI.2.1 1 (by decide)).1.2.1
      have e14 : m.2.2.1 (rd 0) 14 = bI A.2.2.2.2.2.1 := hI.2.2.2.2.2.1
      have stop : (A.2.2.2.2.2.1 = false ∨ A.2.1.M ≤ j) → overR (rovK A) x 3 0 0 = -1 := fun hs => by
        rw [ho]
        refine overR_no (fun i h1 h2 => ?_)
        unfold rovK
        rcases hs with q | q
        · rw [q]; rfl
        · rw [decide_eq_false (show ¬ i < A.2.1.M by omega), Bool.false_and, Bool.and_false]
      refine jm_run hX [(4, [0, 1, 2, 3]), (39, [0, 1, 2, 3])] 40 ?_
      refine And.intro (o0 S) ⟨some (rd 1), S.2.2 1 k1 (by decide), And.intro (S.ok k1) (And.intro (show vp_in (nI 1) (m.2.1 (rd 1)).2 from vin_of (S.len k1) (by decide) (by decide)) ?_)⟩
      refine And.intro (fun g => ?_) (fun g => ?_)
      · have g : m.2.2.1 (rd 1) 1 ≤ nI j := g
        rw [eM, nI_leI (by omega) (by omega)] at g
        exact ⟨Nat.le_refl _, Nat.le_refl _, trivial, hF, hI, by rw [stop (Or.inr g)]⟩
      have g : ¬ m.2.2.1 (rd 1) 1 ≤ nI j := g
      rw [eM, nI_leI (by omega) (by omega)] at g
      refine And.intro (o0 S) ?_
      refine And.intro (fun g2 => ?_) (fun g2 => ?_)
      · have g2 : m.2.2.1 (rd 0) 14 = 0 := g2
        rw [e14, bI_eq0] at g2
        exact ⟨Nat.le_refl _, Nat.le_refl _, trivial, hF, hI, by rw [stop (Or.inl g2)]⟩
      have g2 : ¬ m.2.2.1 (rd 0) 14 = 0 := g2
      rw [e14, bI_eq0, Bool.not_eq_false] at g2
      have ki := c_Mo_isOver (l := l) (D := D) (ca := ca) hI hn (hS g2) (j := j) (by omega)
      have hk : rovK A j = rovB A j := by unfold rovK; rw [g2, decide_eq_true (show j < A.2.1.M by omega)]; rfl
      have hst : overR (rovK A) x (e + 1) j f = if rovK A j = true then (if nI f = x then nI j else overR (rovK A) x e (j + 1) (f + 1)) else overR (rovK A) x e (j + 1) f := rfl
      refine And.intro (o0 S) (And.intro (Nat.le_of_ble_eq_true rfl) (And.intro (Nat.le_of_ble_eq_true rfl) ⟨0, 0, _, Nat.le_refl _, Nat.le_refl _, ki, fun v m1 hq => ?_⟩))
      obtain ⟨rfl, hF1, hI1⟩ := hq
      have k39 : ∀ f', overR (rovK A) x 3 0 0 = overR (rovK A) x e (j + 1) f' → X 39 [(0, .ref (rd 0)), (1, .int x), (2, .int (nI f')), (3, .int (nI j))] [] m1 0 0 := fun f' hf => by
        have kk := ih (j + 1) f' m1 (by omega) hI1 (hF.tr hF1) hf
        rw [← nI_1] at kk
        refine jm_run hX [(4, [0, 1, 2, 3])] 5 ?_
        exact kk
      refine And.intro (fun g3 => ?_) (fun g3 => ?_)
      · have g3 : bI (rovB A j) = 0 := g3
        rw [bI_eq0, ← hk] at g3
        exact k39 f (by rw [ho, hst, g3, if_neg (by decide)])
      · have g3 : ¬ bI (rovB A j) = 0 := g3
        rw [bI_eq0, Bool.not_eq_false, ← hk] at g3
        rw [g3, if_pos rfl] at hst
        refine And.intro (fun g4 => ?_) (fun g4 => ?_)
        · have g4 : nI f = x := g4
          exact ⟨Nat.le_refl _, Nat.le_refl _, trivial, hF.tr hF1, hI1, by rw [ho, hst, if_pos g4]⟩
        · have g4 : ¬ nI f = x := g4
          have kk := k39 (f + 1) (by rw [ho, hst, if_neg g4])
          rw [← nI_1] at kk
          exact kk
  refine jm_run hX [(4, [0, 1, 2, 3])] 6 ?_
  exact loop 3 0 0 m0 (by omega) h0 FM.rf rfl
/-! What a gram at a place brings to a port, over the determinant. -/
def rRch (R : RD) (to : Int32) (k p : Nat) : Nat := if 0 ≤ to.toInt then rWo R (wpt R p (-1)) (3 * to.toInt.toNat + k) else if to.toInt = -2 - (p : Int) then rDT R else 0
theorem m2p {p : Nat} (hp : p < 3) (t : Int32) : t = -2 - nI p ↔ t.toInt = -2 - (p : Int) := by
  have e : ∀ p, p < 3 → ((-2 : Int32) - nI p).toInt = -2 - (p : Int) := by decide
  constructor
  · intro h; rw [h]; exact e p hp
  · intro h
    apply Int32.toInt_inj.mp
    rw [h, e p hp]
theorem c_Mo_gatherOut {m : jm_M} {rd V : Nat → Nat} {A : RSt} {n j k o p q : Nat} (h : MI m rd A n) (hSt : STD A.1) (hC : CCR m rd A.1) (hb : bgv (m.2.2.2.1 (rd 25)) V) (hw : lrow (m.2.2.2.1 (rd 30)) (wpt A.1 p (-1)) 9) (hj : j < 3) (hk : k < 3) (ho : o < 3) (hp : p < 3) (hq : q < 6) : jm_C l D ca n_Mo_gatherOut [.ref (rd 0), .int (nI j), .int (nI k), .int (nI o), .int (nI p), .int (nI q)] m 0 0 (fun v m' => v = none ∧ FM rd pW m m' ∧ bgv (m'.2.2.2.1 (rd 25)) (va_up V q (rRch A.1 (A.1.J (3 * j + o)) k p))) := by
  refine jm_C_of (cd := cd_Mo_gatherOut) (ini := false) (by decide +kernel) ok_Mo_gatherOut (fun h => by cases h) (Nat.le_of_ble_eq_true rfl) ?_
  intro X hX
  have S := h.1
  have o0 : ∀ {m : jm_M}, MST m rd → jm_ok m (rd 0) 6 := fun S => S.ok (Or.inl (by decide))
  have k4 : mkin 4 := Or.inl (by decide)
  have k25 : mkin 25 := Or.inr (Or.inl (by decide))
  have hR : ROK A.1 := (h.2.1 0 (by decide)).2
  have hV : MV m rd 0 A.1 := (h.2.1 0 (by decide)).1
  have hM : A.1.M ≤ 3 := hR.2.1
  have e3 : (3 : Int32) * nI j + nI o = nI (3 * j + o) := by
    have : (3 : Int32) * nI j = nI (3 * j) := pk_mul 3 j
    rw [this, nI_add]
  have ej : m.2.2.1 (rd 4) ((3 : Int32) * nI j + nI o).toNatClampNeg = A.1.J (3 * j + o) := by
    rw [e3, nI_c (by omega)]
    have := hV.2.2.2.2.1 (3 * j + o) (by omega)
    rw [Nat.mul_zero, Nat.zero_add] at this
    exact this
  have hin : vp_in ((3 : Int32) * nI j + nI o) (m.2.1 (rd 4)).2 := by rw [e3]; exact vin_of (S.len k4) (show 3 * j + o < 18 by omega) (by decide)
  have hwb : ∀ q, q < 9 → wpt A.1 p (-1) q ≤ 2 ^ 24 := fun q _ => wpt_le hR _ _ _
  have k12 : X 12 [(0, .ref (rd 0)), (1, .int (nI j)), (2, .int (nI k)), (3, .int (nI o)), (4, .int (nI p)), (5, .int (nI q)), (6, .int (A.1.J (3 * j + o)))] [] m 0 0 := by
    have hjk := hR.2.2.2.2.1 (3 * j + o) (by omega)
    generalize hto : A.1.J (3 * j + o) = to at hjk
    refine jm_run hX [] 40 ?_
    refine And.intro (fun g => ?_) (fun g => ?_)
    · rw [ilt0] at g
      refine And.intro (fun g2 => ?_) (fun g2 => ?_)
      · have g2 : to = -2 - nI p := g2
        rw [m2p hp] at g2
        have kg := c_Mo_gatherOver (l := l) (D := D) (ca := ca) (n := q) (Xv := rDT A.1) S h.2.2.1 hC hb hq hSt.ov (sp24 hSt.dlt)
        refine And.intro (o0 S) (And.intro (Nat.le_of_ble_eq_true rfl) (And.intro (Nat.le_of_ble_eq_true rfl) ⟨0, 0, _, Nat.le_refl _, Nat.le_refl _, kg, fun v m1 hq => ?_⟩))
        obtain ⟨rfl, hF1, hb1⟩ := hq
        refine ⟨Nat.le_refl _, Nat.le_refl _, trivial, rfl, hF1, ?_⟩
        unfold rRch
        rw [hto, if_neg (by omega), if_pos g2]
        exact hb1
      · have g2 : ¬ to = -2 - nI p := g2
        rw [m2p hp] at g2
        have kg := c_Mo_clear (l := l) (D := D) (ca := ca) (n := q) S hq
        refine And.intro (o0 S) (And.intro (Nat.le_of_ble_eq_true rfl) (And.intro (Nat.le_of_ble_eq_true rfl) ⟨0, 0, _, Nat.le_refl _, Nat.le_refl _, kg, fun v m1 hq => ?_⟩))
        obtain ⟨rfl, em1⟩ := hq
        refine ⟨Nat.le_refl _, Nat.le_refl _, trivial, rfl, by rw [em1]; exact FM.uJA k25 (Or.inl rfl), ?_⟩
        unfold rRch
        rw [hto, if_neg (by omega), if_neg g2, em1]
        exact hb.up (Nat.pow_pos (by decide))
    · rw [ilt0] at g
      have hjj := j_nn hjk hM (by omega)
      have e4 : (3 : Int32) * to + nI k = nI (3 * to.toInt.toNat + k) := by
        have : (3 : Int32) * nI to.toInt.toNat = nI (3 * to.toInt.toNat) := pk_mul 3 _
        conv => lhs; rw [hjj.2]
        rw [this, nI_add]
      have kg := c_Mo_gatherWorth (l := l) (D := D) (ca := ca) (nd := 3 * to.toInt.toNat + k) (n := q) (Xv := rWo A.1 (wpt A.1 p (-1)) (3 * to.toInt.toNat + k)) S h.2.2.1 hC hb hw (fun j hj => Nat.lt_of_le_of_lt (hwb j hj) (by decide)) (by omega) hq (hSt.wo _ (by omega)) (sp24 (hSt.wlt hwb))
      rw [← e4] at kg
      refine And.intro (o0 S) (And.intro (Nat.le_of_ble_eq_true rfl) (And.intro (Nat.le_of_ble_eq_true rfl) ⟨0, 0, _, Nat.le_refl _, Nat.le_refl _, kg, fun v m1 hq => ?_⟩))
      obtain ⟨rfl, hF1, hb1⟩ := hq
      refine ⟨Nat.le_refl _, Nat.le_refl _, trivial, rfl, hF1, ?_⟩
      unfold rRch
      rw [hto, if_pos (by omega)]
      exact hb1
  rw [← ej] at k12
  refine jm_run hX [(12, [0, 1, 2, 3, 4, 5, 6])] 20 ?_
  exact And.intro (o0 S) ⟨some (rd 4), S.2.2 4 k4 (by decide), And.intro (S.ok k4) (And.intro hin k12)⟩
end RB29
