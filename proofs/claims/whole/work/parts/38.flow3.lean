/-! Where a kind of an out goes: a row of moves, a row of leaves, or 0. -/
def tgt (d : LD) (j k o : Nat) : Nat := if 0 ≤ (d.2.2.1 (3 * j + o)).toInt then 17 + ((d.2.2.1 (3 * j + o)).toInt.toNat * d.1.1 + k) else if (d.2.2.1 (3 * j + o)).toInt ≤ -2 then 27 + ((-2 - (d.2.2.1 (3 * j + o)).toInt).toNat * d.1.1 + k) else 0
def snd (d : LD) (j k u : Nat) (C : Nat → Nat) : Nat → Nat → Nat
  | 0 => va_up C (37 + k) (C (37 + k) + u * 27720)
  | o + 1 => va_up (snd d j k u C o) (tgt d j k o) (snd d j k u C o (tgt d j k o) + u * d.2.2.2.1 (3 * (j * d.1.1 + k) + o))
def colF (F : Nat → Nat → Nat) (f : Nat) (C : Nat → Nat) : Nat → Nat → Nat := fun t c => if c = f then C t else F t c
theorem colF_put {m : jm_M} {ad : Nat → Nat} {F : Nat → Nat → Nat} {f t : Nat} {C : Nat → Nat} {x : Nat} (S : SST m ad) (h : FlV m ad (colF F f C)) (ht : fk t) : FlV (uI m (ad t) f (nI x)) ad (colF F f (va_up C t x)) := by
  refine h.put S ht ?_ ?_
  · show (if f = f then va_up C t x t else F t f) = x
    rw [if_pos rfl, va_up_self]
  · intro t' c' _ _ h3
    show (if c' = f then va_up C t x t' else F t' c') = if c' = f then C t' else F t' c'
    by_cases e : c' = f
    · rw [if_pos e, if_pos e, va_up_ne _ _ (by omega)]
    · rw [if_neg e, if_neg e]
theorem colF_get {m : jm_M} {ad : Nat → Nat} {F : Nat → Nat → Nat} {f t : Nat} {C : Nat → Nat} (h : FlV m ad (colF F f C)) (ht : fk t) (hf : f < 9) : m.2.2.1 (ad t) f = nI (C t) := h.get ht hf (if_pos rfl)
theorem colF_cg {m : jm_M} {ad : Nat → Nat} {F : Nat → Nat → Nat} {f : Nat} {C C' : Nat → Nat} (h : FlV m ad (colF F f C)) (e : ∀ t, fk t → C' t = C t) : FlV m ad (colF F f C') := by
  refine h.cg (fun t c ht hc => ?_)
  show (if c = f then C' t else F t c) = if c = f then C t else F t c
  rw [e t ht]
theorem m2_toInt {tv : Int32} (h : tv.toInt ≤ -2) : ((-2 : Int32) - tv).toInt = -2 - tv.toInt := by
  have h2 : (-2 : Int32).toInt = -2 := by decide
  have h3 : -2 ^ 31 ≤ tv.toInt := tv.le_toInt
  rw [Int32.toInt_sub, h2]
  exact Int.bmod_eq_of_le (by omega) (by omega)
theorem m2_of {tv : Int32} (h : tv.toInt ≤ -2) : (-2 : Int32) - tv = nI (-2 - tv.toInt).toNat := by
  have e := m2_toInt h
  have h0 : 0 ≤ ((-2 : Int32) - tv).toInt := by rw [e]; omega
  have := i_of h0
  rw [e] at this
  exact this
section FL3
variable {l : Launch} {D : va_G} {ca : Nat → ClassId}
theorem c_Fl_sendAs {m0 : jm_M} {ad : Nat → Nat} {d : LD} {F : Nat → Nat → Nat} {C : Nat → Nat} {j k f u : Nat} (S : SST m0 ad) (L : LnV m0 ad d) (hO : LOK d) (hF : FlV m0 ad (colF F f C)) (hf : f < 9) (hj : j < d.1.2.1) (hk : k < d.1.1) : jm_C l D ca n_Fl_sendAs [.ref (ad 2), .int (nI j), .int (nI k), .int (nI f), .int (nI u)] m0 0 0 (fun v m' => v = none ∧ FRs ad fk m0 m' ∧ FlV m' ad (colF F f (snd d j k u C (d.2.1 j)))) := by
  refine jm_C_of (cd := cd_Fl_sendAs) (ini := false) (by decide +kernel) ok_Fl_sendAs (fun h => by cases h) (Nat.le_of_ble_eq_true rfl) ?_
  intro X hX
  have ecf : (nI f).toNatClampNeg = f := nI_c (by omega)
  have hK := hO.1
  have hM := hO.2.1
  have hP := hO.2.2.1
  have hou := hO.2.2.2.1 j hj
  have hrow := row_lt hK.2 hM hj hk
  have loop : ∀ (e o : Nat) (m : jm_M), o + e = d.2.1 j → FRs ad fk m0 m → FlV m ad (colF F f (snd d j k u C o)) → X 20 [(0, .ref (ad 2)), (1, .int (nI j)), (2, .int (nI k)), (3, .int (nI f)), (4, .int (nI u)), (5, .int (nI o))] [] m 0 0 := by
    intro e
    induction e with
    | zero =>
      intro o m ho hR hV
      have Sm := hR.S S
      have Lm := hR.L S (fun k hk h => by unfold fk at h; omega) L
      have o1 : jm_ok m (ad 1) 2 := Sm.ok 1 (Or.inl (by decide))
      have o2 : jm_ok m (ad 2) 1 := Sm.ok 2 (Or.inl (by decide))
      have r1 : m.2.2.2.2 (ad 2) 2 = some (ad 1) := Sm.2.2.1 (2, 2, 1) (by decide)
      have o5 : jm_ok m (ad 5) 50 := Sm.ok 5 (Or.inl (by decide))
      have r5 : m.2.2.2.2 (ad 1) 3 = some (ad 5) := Sm.2.2.1 (1, 3, 5) (by decide)
      have l5 : (m.2.1 (ad 5)).2 = 3 := Sm.len 5 (Or.inl (by decide))
      refine jm_run hX [] 20 ?_
      refine And.intro o2 ⟨some (ad 1), r1, And.intro o1 ⟨some (ad 5), r5, And.intro o5 (And.intro (vin_of l5 (by omega) (by decide)) (And.intro (fun _ => ?_) (fun g => ?_)))⟩⟩
      · rw [show o = d.2.1 j by omega] at hV
        exact ⟨Nat.le_refl _, Nat.le_refl _, trivial, rfl, hR, hV⟩
      · have g : ¬ m.2.2.1 (ad 5) (nI j).toNatClampNeg ≤ nI o := g
        rw [nI_c (by omega), Lm.2.2.2.1] at g
        exact absurd (nI_le (by omega) (by omega)) g
    | succ e ih =>
      intro o m ho hR hV
      have Sm := hR.S S
      have Lm := hR.L S (fun k hk h => by unfold fk at h; omega) L
      have o1 : jm_ok m (ad 1) 2 := Sm.ok 1 (Or.inl (by decide))
      have o2 : jm_ok m (ad 2) 1 := Sm.ok 2 (Or.inl (by decide))
      have r1 : m.2.2.2.2 (ad 2) 2 = some (ad 1) := Sm.2.2.1 (2, 2, 1) (by decide)
      have o5 : jm_ok m (ad 5) 50 := Sm.ok 5 (Or.inl (by decide))
      have r5 : m.2.2.2.2 (ad 1) 3 = some (ad 5) := Sm.2.2.1 (1, 3, 5) (by decide)
      have l5 : (m.2.1 (ad 5)).2 = 3 := Sm.len 5 (Or.inl (by decide))
      have hjo := hO.2.2.2.2.1 (3 * j + o) (by omega)
      have key1 := c_Ln_shareOf (l := l) (D := D) (ca := ca) (j := j) (k := k) (o := o) Sm Lm hrow (by omega)
      have key2 := c_Ln_target (l := l) (D := D) (ca := ca) (j := j) (o := o) Sm Lm (by omega) (by omega)
      have hun : snd d j k u C (o + 1) = va_up (snd d j k u C o) (tgt d j k o) (snd d j k u C o (tgt d j k o) + u * d.2.2.2.1 (3 * (j * d.1.1 + k) + o)) := rfl
      have htg : tgt d j k o = if 0 ≤ (d.2.2.1 (3 * j + o)).toInt then 17 + ((d.2.2.1 (3 * j + o)).toInt.toNat * d.1.1 + k) else if (d.2.2.1 (3 * j + o)).toInt ≤ -2 then 27 + ((-2 - (d.2.2.1 (3 * j + o)).toInt).toNat * d.1.1 + k) else 0 := rfl
      -- behind the question where it goes
      have join : ∀ m1 : jm_M, FRs ad fk m0 m1 → FlV m1 ad (colF F f (snd d j k u C (o + 1))) → X 124 [(0, .ref (ad 2)), (1, .int (nI j)), (2, .int (nI k)), (3, .int (nI f)), (4, .int (nI u)), (5, .int (nI o))] [] m1 0 0 := by
        intro m1 hR1 hV1
        have kk := ih (o + 1) m1 (by omega) hR1 hV1
        rw [← nI_1] at kk
        refine jm_run hX [(20, [0, 1, 2, 3, 4, 5])] 10 ?_
        exact kk
      generalize hsh : d.2.2.2.1 (3 * (j * d.1.1 + k) + o) = sv at *
      generalize hto : d.2.2.1 (3 * j + o) = tv at *
      refine jm_run hX [(124, [0, 1, 2, 3, 4, 5])] 60 ?_
      refine And.intro o2 ⟨some (ad 1), r1, And.intro o1 ⟨some (ad 5), r5, And.intro o5 (And.intro (vin_of l5 (by omega) (by decide)) (And.intro (fun g => ?_) (fun _ => ?_)))⟩⟩
      · have g : m.2.2.1 (ad 5) (nI j).toNatClampNeg ≤ nI o := g
        rw [nI_c (by omega), Lm.2.2.2.1] at g
        exact absurd g (nI_ge (by omega) (by omega))
      refine And.intro o2 ⟨some (ad 1), r1, ?_⟩
      refine And.intro o1 (And.intro (Nat.le_of_ble_eq_true rfl) (And.intro (Nat.le_of_ble_eq_true rfl) ⟨0, 0, _, Nat.le_refl _, Nat.le_refl _, key1, fun v m' hq => ?_⟩))
      obtain ⟨ee, rfl⟩ := hq
      have ee := ee.symm
      subst ee
      refine And.intro o2 ⟨some (ad 1), r1, ?_⟩
      refine And.intro o1 (And.intro (Nat.le_of_ble_eq_true rfl) (And.intro (Nat.le_of_ble_eq_true rfl) ⟨0, 0, _, Nat.le_refl _, Nat.le_refl _, key2, fun v m' hq => ?_⟩))
      obtain ⟨ee, rfl⟩ := hq
      have ee := ee.symm
      subst ee
      refine And.intro (fun g => ?_) (fun g => ?_)
      · -- to a port, or nothing
        rw [ilt0] at g
        refine And.intro (fun g2 => ?_) (fun g2 => ?_)
        · have g2 : (-2 : Int32) < tv := g2
          rw [Int32.lt_iff_toInt_lt, show (-2 : Int32).toInt = -2 by decide] at g2
          refine join m hR (colF_cg hV (fun t ht => ?_))
          rw [hun, htg, if_neg (by omega), if_neg (by omega), va_up_ne _ _ (by unfold fk at ht; omega)]
        · have g2 : ¬ (-2 : Int32) < tv := g2
          rw [Int32.lt_iff_toInt_lt, show (-2 : Int32).toInt = -2 by decide] at g2
          have e2 : (-2 : Int32) - tv = nI (-2 - tv.toInt).toNat := m2_of (by omega)
          have hp3 : (-2 - tv.toInt).toNat < d.1.2.2 := by rcases hjo with q | q | q <;> omega
          have hr2 := row_lt hK.2 hP hp3 hk
          have key3 := c_Ln_row (l := l) (D := D) (ca := ca) (j := (-2 - tv.toInt).toNat) (k := k) Sm Lm
          rw [← e2] at key3
          rw [if_neg (by omega), if_pos (by omega)] at htg
          generalize hrr : (-2 - tv.toInt).toNat * d.1.1 + k = rr at *
          have ht : fk (27 + rr) := fk_l hr2
          have q := fkok Sm ht
          have o26 : jm_ok m (ad 26) 54 := Sm.ok 26 (Or.inl (by decide))
          have r26 : m.2.2.2.2 (ad 2) 6 = some (ad 26) := Sm.2.2.1 (2, 6, 26) (by decide)
          have l26 : (m.2.1 (ad 26)).2 = 9 := Sm.len 26 (Or.inl (by decide))
          refine And.intro o2 ⟨some (ad 26), r26, And.intro o2 ⟨some (ad 1), r1, ?_⟩⟩
          refine And.intro o1 (And.intro (Nat.le_of_ble_eq_true rfl) (And.intro (Nat.le_of_ble_eq_true rfl) ⟨0, 0, _, Nat.le_refl _, Nat.le_refl _, key3, fun v m' hq => ?_⟩))
          obtain ⟨ee, rfl⟩ := hq
          have ee := ee.symm
          subst ee
          refine And.intro o26 (And.intro (vin_of l26 hr2 (by decide)) ⟨some (ad (27 + rr)), ?_, ?_⟩)
          · rw [nI_c (by omega)]; exact Sm.2.2.2.2.2.1 rr hr2
          refine And.intro rfl (And.intro rfl (And.intro q.1 (And.intro (vin_of q.2 hf (by decide)) (And.intro q.1 (And.intro (vin_of q.2 hf (by decide)) ?_)))))
          have ev : m.2.2.1 (ad (27 + rr)) f + nI u * nI sv = nI (snd d j k u C o (27 + rr) + u * sv) := by
            rw [colF_get hV ht hf, pk_mul, nI_add]
          rw [htg] at hun
          have kk := join _ (hR.tr (FRs.uI ht.kin ht)) (by rw [hun]; exact colF_put (x := snd d j k u C o (27 + rr) + u * sv) Sm hV ht)
          rw [← ev] at kk
          have k2 : X 124 [(0, .ref (ad 2)), (1, .int (nI j)), (2, .int (nI k)), (3, .int (nI f)), (4, .int (nI u)), (5, .int (nI o))] [] (uI m (ad (27 + rr)) (nI f).toNatClampNeg (m.2.2.1 (ad (27 + rr)) (nI f).toNatClampNeg + nI u * nI sv)) 0 0 := by
            rw [ecf]; exact kk
          exact k2
      · -- to a machine
        rw [ilt0] at g
        have et : tv = nI tv.toInt.toNat := i_of (by omega)
        have hp3 : tv.toInt.toNat < d.1.2.1 := by rcases hjo with q | q | q <;> omega
        have hr2 := row_lt hK.2 hM hp3 hk
        have key3 := c_Ln_row (l := l) (D := D) (ca := ca) (j := tv.toInt.toNat) (k := k) Sm Lm
        rw [← et] at key3
        rw [if_pos (by omega)] at htg
        generalize hrr : tv.toInt.toNat * d.1.1 + k = rr at *
        have ht : fk (17 + rr) := fk_m hr2
        have q := fkok Sm ht
        have o16 : jm_ok m (ad 16) 54 := Sm.ok 16 (Or.inl (by decide))
        have r16 : m.2.2.2.2 (ad 2) 5 = some (ad 16) := Sm.2.2.1 (2, 5, 16) (by decide)
        have l16 : (m.2.1 (ad 16)).2 = 9 := Sm.len 16 (Or.inl (by decide))
        refine And.intro o2 ⟨some (ad 16), r16, And.intro o2 ⟨some (ad 1), r1, ?_⟩⟩
        refine And.intro o1 (And.intro (Nat.le_of_ble_eq_true rfl) (And.intro (Nat.le_of_ble_eq_true rfl) ⟨0, 0, _, Nat.le_refl _, Nat.le_refl _, key3, fun v m' hq => ?_⟩))
        obtain ⟨ee, rfl⟩ := hq
        have ee := ee.symm
        subst ee
        refine And.intro o16 (And.intro (vin_of l16 hr2 (by decide)) ⟨some (ad (17 + rr)), ?_, ?_⟩)
        · rw [nI_c (by omega)]; exact Sm.2.2.2.2.1 rr hr2
        refine And.intro rfl (And.intro rfl (And.intro q.1 (And.intro (vin_of q.2 hf (by decide)) (And.intro q.1 (And.intro (vin_of q.2 hf (by decide)) ?_)))))
        have ev : m.2.2.1 (ad (17 + rr)) f + nI u * nI sv = nI (snd d j k u C o (17 + rr) + u * sv) := by
          rw [colF_get hV ht hf, pk_mul, nI_add]
        rw [htg] at hun
        have kk := join _ (hR.tr (FRs.uI ht.kin ht)) (by rw [hun]; exact colF_put (x := snd d j k u C o (17 + rr) + u * sv) Sm hV ht)
        rw [← ev] at kk
        have k2 : X 124 [(0, .ref (ad 2)), (1, .int (nI j)), (2, .int (nI k)), (3, .int (nI f)), (4, .int (nI u)), (5, .int (nI o))] [] (uI m (ad (17 + rr)) (nI f).toNatClampNeg (m.2.2.1 (ad (17 + rr)) (nI f).toNatClampNeg + nI u * nI sv)) 0 0 := by
          rw [ecf]; exact kk
        exact k2
  have o2 : jm_ok m0 (ad 2) 1 := S.ok 2 (Or.inl (by decide))
  have o36 : jm_ok m0 (ad 36) 54 := S.ok 36 (Or.inl (by decide))
  have r36 : m0.2.2.2.2 (ad 2) 7 = some (ad 36) := S.2.2.1 (2, 7, 36) (by decide)
  have l36 : (m0.2.1 (ad 36)).2 = 3 := S.len 36 (Or.inl (by decide))
  have ht : fk (37 + k) := fk_t (by omega)
  have q := fkok S ht
  have ev : m0.2.2.1 (ad (37 + k)) f + nI u * nI 27720 = nI (C (37 + k) + u * 27720) := by
    rw [colF_get hF ht hf, pk_mul, nI_add]
  have kk := loop (d.2.1 j) 0 _ (by omega) (FRs.uI ht.kin ht) (colF_put (x := C (37 + k) + u * 27720) S hF ht)
  rw [← ev] at kk
  refine jm_run hX [(20, [0, 1, 2, 3, 4, 5])] 20 ?_
  refine And.intro o2 ⟨some (ad 36), r36, And.intro o36 (And.intro (vin_of l36 (by omega) (by decide)) ⟨some (ad (37 + k)), ?_, ?_⟩)⟩
  · rw [nI_c (by omega)]; exact S.2.2.2.2.2.2.1 k (by omega)
  refine And.intro rfl (And.intro rfl (And.intro q.1 (And.intro (vin_of q.2 hf (by decide)) (And.intro q.1 (And.intro (vin_of q.2 hf (by decide)) ?_)))))
  have k2 : X 20 [(0, .ref (ad 2)), (1, .int (nI j)), (2, .int (nI k)), (3, .int (nI f)), (4, .int (nI u)), (5, .int (nI 0))] [] (uI m0 (ad (37 + k)) (nI f).toNatClampNeg (m0.2.2.1 (ad (37 + k)) (nI f).toNatClampNeg + nI u * nI 27720)) 0 0 := by
    rw [ecf]; exact kk
  exact k2
end FL3
