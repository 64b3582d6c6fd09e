/-! A column as it is read: what one gram of a row's scale sends where. -/
def C0 : Nat → Nat := fun t => if t = 15 then 768398400 else 0
def colD (d : LD) (j k : Nat) : Nat → Nat := snd d j (d.2.2.2.2.2.1 (j * d.1.1 + k)) (d.2.2.2.2.1 (j * d.1.1 + k)) (snd d j k (27720 - d.2.2.2.2.1 (j * d.1.1 + k)) C0 (d.2.1 j)) (d.2.1 j)
/-- no column outgrows an int -/
def LB (d : LD) : Prop := ∀ j k, j < d.1.2.1 → k < d.1.1 → ∀ t, fk t → colD d j k t ≤ 768398400
theorem snd_15 (d : LD) (j k u : Nat) (C : Nat → Nat) : ∀ o, snd d j k u C o 15 = C 15
  | 0 => va_up_ne _ _ (by omega)
  | o + 1 => by
    show va_up (snd d j k u C o) (tgt d j k o) _ 15 = _
    rw [va_up_ne _ _ (by unfold tgt; split <;> (try split) <;> omega), snd_15 d j k u C o]
theorem colD_15 (d : LD) (j k : Nat) : colD d j k 15 = 768398400 := by
  unfold colD
  rw [snd_15, snd_15]; rfl
/-- a column that was read: its numbers, divided by all that divides them -/
def RC (d : LD) (j k : Nat) (C : Nat → Nat) : Prop := ∃ g, 1 ≤ g ∧ (∀ t, fk t → g * C t = colD d j k t) ∧ ∀ w, (∀ t, fk t → w ∣ colD d j k t) → w ∣ g
section FL4
variable {l : Launch} {D : va_G} {ca : Nat → ClassId}
set_option maxRecDepth 4000 in
theorem c_Fl_readColumn {m0 : jm_M} {ad : Nat → Nat} {d : LD} {F : Nat → Nat → Nat} {j k : Nat} (S : SST m0 ad) (L : LnV m0 ad d) (hO : LOK d) (hB : LB d) (hF : FlV m0 ad F) (hj : j < d.1.2.1) (hk : k < d.1.1) : jm_C l D ca n_Fl_readColumn [.ref (ad 2), .int (nI j), .int (nI k)] m0 0 0 (fun v m' => v = none ∧ FRs ad fk m0 m' ∧ ∃ C, RC d j k C ∧ FlV m' ad (colF F (j * d.1.1 + k) C)) := by
  refine jm_C_of (cd := cd_Fl_readColumn) (ini := false) (by decide +kernel) ok_Fl_readColumn (fun h => by cases h) (Nat.le_of_ble_eq_true rfl) ?_
  intro X hX
  have hK := hO.1
  have hM := hO.2.1
  have hf := row_lt hK.2 hM hj hk
  have hcr := hO.2.2.2.2.2.2.1 _ hf
  have hbe := hO.2.2.2.2.2.2.2.1 _ hf
  have hBc := hB j k hj hk
  have hcD : colD d j k = snd d j (d.2.2.2.2.2.1 (j * d.1.1 + k)) (d.2.2.2.2.1 (j * d.1.1 + k)) (snd d j k (27720 - d.2.2.2.2.1 (j * d.1.1 + k)) C0 (d.2.1 j)) (d.2.1 j) := rfl
  have h15 := colD_15 d j k
  have key0 := c_Ln_row (l := l) (D := D) (ca := ca) (j := j) (k := k) S L
  have hLp : ∀ k, k < 15 → fk k → k = 0 ∨ k = 2 ∨ k = 3 ∨ k = 4 ∨ 10 < k := fun k hk h => by unfold fk at h; omega
  have hRC : RC d j k = fun C => ∃ g, 1 ≤ g ∧ (∀ t, fk t → g * C t = colD d j k t) ∧ ∀ w, (∀ t, fk t → w ∣ colD d j k t) → w ∣ g := rfl
  have Lcr : ∀ m, LnV m ad d → m.2.2.1 (ad 8) (j * d.1.1 + k) = nI (d.2.2.2.2.1 (j * d.1.1 + k)) := fun m Lm => by rw [Lm.2.2.2.2.2.2.1]
  have Lbe : ∀ m, LnV m ad d → m.2.2.1 (ad 9) (j * d.1.1 + k) = nI (d.2.2.2.2.2.1 (j * d.1.1 + k)) := fun m Lm => by rw [Lm.2.2.2.2.2.2.2.1]
  generalize hcre : d.2.2.2.2.1 (j * d.1.1 + k) = cr at *
  generalize hbee : d.2.2.2.2.2.1 (j * d.1.1 + k) = be at *
  generalize hfe : j * d.1.1 + k = f at *
  generalize hcDe : colD d j k = cD at *
  have ecf : (nI f).toNatClampNeg = f := nI_c (by omega)
  have o2 : ∀ {m' : jm_M}, SST m' ad → jm_ok m' (ad 2) 1 := fun S => S.ok 2 (Or.inl (by decide))
  have o1 : ∀ {m' : jm_M}, SST m' ad → jm_ok m' (ad 1) 2 := fun S => S.ok 1 (Or.inl (by decide))
  have r1 : ∀ {m' : jm_M}, SST m' ad → m'.2.2.2.2 (ad 2) 2 = some (ad 1) := fun S => S.2.2.1 (2, 2, 1) (by decide)
  have o8 : ∀ {m' : jm_M}, SST m' ad → jm_ok m' (ad 8) 50 := fun S => S.ok 8 (Or.inl (by decide))
  have r8 : ∀ {m' : jm_M}, SST m' ad → m'.2.2.2.2 (ad 1) 6 = some (ad 8) := fun S => S.2.2.1 (1, 6, 8) (by decide)
  have l8 : ∀ {m' : jm_M}, SST m' ad → (m'.2.1 (ad 8)).2 = 9 := fun S => S.len 8 (Or.inl (by decide))
  have o9 : ∀ {m' : jm_M}, SST m' ad → jm_ok m' (ad 9) 50 := fun S => S.ok 9 (Or.inl (by decide))
  have r9 : ∀ {m' : jm_M}, SST m' ad → m'.2.2.2.2 (ad 1) 7 = some (ad 9) := fun S => S.2.2.1 (1, 7, 9) (by decide)
  have l9 : ∀ {m' : jm_M}, SST m' ad → (m'.2.1 (ad 9)).2 = 9 := fun S => S.len 9 (Or.inl (by decide))
  have sends : ∀ (m : jm_M), FRs ad fk m0 m → FlV m ad (colF F f C0) → X 79 [(0, .ref (ad 2)), (1, .int (nI j)), (2, .int (nI k)), (3, .int (nI f))] [] m 0 0 := by
    intro m hR hV
    have Sm := hR.S S
    have Lm := hR.L S hLp L
    have key1 := c_Fl_sendAs (l := l) (D := D) (ca := ca) (j := j) (k := k) (f := f) (u := 27720 - cr) Sm Lm hO hV hf hj hk
    rw [← pk_sub hcr, ← Lcr m Lm, ← ecf] at key1
    rw [ecf] at key1
    refine jm_run hX [] 60 ?_
    refine And.intro (o2 Sm) ⟨some (ad 1), (r1 Sm), And.intro (o1 Sm) ⟨some (ad 8), r8 Sm, And.intro (o8 Sm) (And.intro (vin_of (l8 Sm) hf (by decide)) ?_)⟩⟩
    refine And.intro (o2 Sm) (And.intro (Nat.le_of_ble_eq_true rfl) (And.intro (Nat.le_of_ble_eq_true rfl) ⟨0, 0, _, Nat.le_refl _, Nat.le_refl _, (by rw [ecf]; exact key1), fun v m1 hq => ?_⟩))
    obtain ⟨rfl, hR1, hV1⟩ := hq
    have hR1 := hR.tr hR1
    have S1 := hR1.S S
    have L1 := hR1.L S hLp L
    have key2 := c_Fl_sendAs (l := l) (D := D) (ca := ca) (j := j) (k := be) (f := f) (u := cr) S1 L1 hO hV1 hf hj hbe
    rw [← Lcr m1 L1, ← Lbe m1 L1] at key2
    refine And.intro (o2 S1) ⟨some (ad 1), (r1 S1), And.intro (o1 S1) ⟨some (ad 9), r9 S1, And.intro (o9 S1) (And.intro (vin_of (l9 S1) hf (by decide)) ?_)⟩⟩
    refine And.intro (o2 S1) ⟨some (ad 1), (r1 S1), And.intro (o1 S1) ⟨some (ad 8), r8 S1, And.intro (o8 S1) (And.intro (vin_of (l8 S1) hf (by decide)) ?_)⟩⟩
    refine And.intro (o2 S1) (And.intro (Nat.le_of_ble_eq_true rfl) (And.intro (Nat.le_of_ble_eq_true rfl) ⟨0, 0, _, Nat.le_refl _, Nat.le_refl _, (by rw [ecf]; exact key2), fun v m2 hq => ?_⟩))
    obtain ⟨rfl, hR2, hV2⟩ := hq
    have hR2 := hR1.tr hR2
    have S2 := hR2.S S
    rw [← hcD] at hV2
    have ecD : ∀ t, colF F f cD t f = cD t := fun t => if_pos rfl
    have key3 := c_Fl_shrinkColumn (l := l) (D := D) (ca := ca) (f := f) S2 hV2 hf (by rw [ecD, h15]; decide) (fun t ht => by rw [ecD]; have := hBc t ht; omega)
    refine And.intro (o2 S2) (And.intro (Nat.le_of_ble_eq_true rfl) (And.intro (Nat.le_of_ble_eq_true rfl) ⟨0, 0, _, Nat.le_refl _, Nat.le_refl _, key3, fun v m3 hq => ?_⟩))
    obtain ⟨rfl, hR3, g, hg1, hgd, hgw, hV3⟩ := hq
    refine ⟨Nat.le_refl _, Nat.le_refl _, trivial, rfl, hR2.tr hR3, fun t => cD t / g, ?_, hV3.cg (fun t c ht hc => ?_)⟩
    · rw [hRC]
      refine ⟨g, hg1, fun t ht => ?_, fun w hw => hgw w (fun t ht => by rw [ecD]; exact hw t ht)⟩
      have := hgd t ht
      rw [ecD] at this
      exact Nat.mul_div_cancel' this
    · show (if c = f then cD t / g else F t c) = if c = f then (if c = f then cD t else F t c) / g else (if c = f then cD t else F t c)
      by_cases e : c = f
      · rw [if_pos e, if_pos e, if_pos e]
      · rw [if_neg e, if_neg e, if_neg e]
  -- from the scale on
  have last : ∀ (m : jm_M), FRs ad fk m0 m → FlV m ad (colF F f (fun t => if t = 15 then F t f else 0)) → X 71 [(0, .ref (ad 2)), (1, .int (nI j)), (2, .int (nI k)), (3, .int (nI f))] [] m 0 0 := by
    intro m hR hV
    have Sm := hR.S S
    have r15 : m.2.2.2.2 (ad 2) 4 = some (ad 15) := Sm.2.2.1 (2, 4, 15) (by decide)
    have ht : fk 15 := Or.inl rfl
    have q := fkok Sm ht
    have kk := sends (uI m (ad 15) f (nI 768398400)) (hR.tr (FRs.uI ht.kin ht)) (colF_cg (colF_put (x := 768398400) Sm hV ht) (fun t ht => by
      by_cases e : t = 15
      · subst e; rw [va_up_self]; rfl
      · rw [va_up_ne _ _ e, if_neg e]; unfold C0; rw [if_neg e]))
    refine jm_run hX [(79, [0, 1, 2, 3])] 60 ?_
    refine And.intro (o2 Sm) ⟨some (ad 15), r15, And.intro q.1 (And.intro (vin_of q.2 hf (by decide)) ?_)⟩
    have k2 : X 79 [(0, .ref (ad 2)), (1, .int (nI j)), (2, .int (nI k)), (3, .int (nI f))] [] (uI m (ad 15) (nI f).toNatClampNeg (nI 768398400)) 0 0 := by
      rw [ecf]; exact kk
    exact k2
  have second : ∀ (e i : Nat) (m : jm_M), i + e = 3 → FRs ad fk m0 m → FlV m ad (colF F f (fun t => if 17 ≤ t ∧ t < 37 + i then 0 else F t f)) → X 49 [(0, .ref (ad 2)), (1, .int (nI j)), (2, .int (nI k)), (3, .int (nI f)), (4, .int (nI i))] [] m 0 0 := by
    intro e
    induction e with
    | zero =>
      intro i m hi hR hV
      refine jm_run hX [(71, [0, 1, 2, 3])] 20 ?_
      refine And.intro (fun _ => ?_) (fun g => absurd (nI_le (show 3 ≤ i by omega) (by omega)) g)
      refine last m hR (colF_cg hV (fun t ht => ?_))
      unfold fk at ht
      by_cases e : t = 15
      · rw [if_pos e, if_neg (by omega)]
      · rw [if_neg e, if_pos (by omega)]
    | succ e ih =>
      intro i m hi hR hV
      have Sm := hR.S S
      have ht : fk (37 + i) := fk_t (by omega)
      have o36 : jm_ok m (ad 36) 54 := Sm.ok 36 (Or.inl (by decide))
      have r36 : m.2.2.2.2 (ad 2) 7 = some (ad 36) := Sm.2.2.1 (2, 7, 36) (by decide)
      have l36 : (m.2.1 (ad 36)).2 = 3 := Sm.len 36 (Or.inl (by decide))
      have q := fkok Sm ht
      have kk := ih (i + 1) (uI m (ad (37 + i)) f (nI 0)) (by omega) (hR.tr (FRs.uI ht.kin ht)) (colF_cg (colF_put (x := 0) Sm hV ht) (fun t ht => by
        by_cases e : t = 37 + i
        · subst e; rw [va_up_self, if_pos (by omega)]
        · rw [va_up_ne _ _ e]; exact ite_iff (by omega)))
      rw [← nI_1] at kk
      refine jm_run hX [(49, [0, 1, 2, 3, 4])] 20 ?_
      refine And.intro (fun g => absurd g (nI_ge (show i < 3 by omega) (by decide))) (fun _ => ?_)
      refine And.intro (o2 Sm) ⟨some (ad 36), r36, And.intro o36 (And.intro (vin_of l36 (by omega) (by decide)) ⟨some (ad (37 + i)), ?_, ?_⟩)⟩
      · rw [nI_c (by omega)]; exact Sm.2.2.2.2.2.2.1 i (by omega)
      refine And.intro q.1 (And.intro (vin_of q.2 hf (by decide)) ?_)
      have k2 : X 49 [(0, .ref (ad 2)), (1, .int (nI j)), (2, .int (nI k)), (3, .int (nI f)), (4, .int (nI i + 1))] [] (uI m (ad (37 + i)) (nI f).toNatClampNeg (nI 0)) 0 0 := by
        rw [ecf]; exact kk
      exact k2
  have first : ∀ (e i : Nat) (m : jm_M), i + e = 9 → FRs ad fk m0 m → FlV m ad (colF F f (fun t => if (17 ≤ t ∧ t < 17 + i) ∨ (27 ≤ t ∧ t < 27 + i) then 0 else F t f)) → X 13 [(0, .ref (ad 2)), (1, .int (nI j)), (2, .int (nI k)), (3, .int (nI f)), (4, .int (nI i))] [] m 0 0 := by
    intro e
    induction e with
    | zero =>
      intro i m hi hR hV
      refine jm_run hX [(49, [0, 1, 2, 3, 4])] 20 ?_
      refine And.intro (fun _ => ?_) (fun g => absurd (nI_le (show 9 ≤ i by omega) (by omega)) g)
      refine second 3 0 m (by omega) hR (colF_cg hV (fun t ht => ?_))
      unfold fk at ht
      exact ite_iff (by omega)
    | succ e ih =>
      intro i m hi hR hV
      have Sm := hR.S S
      have ht : fk (17 + i) := fk_m (by omega)
      have ht2 : fk (27 + i) := fk_l (by omega)
      have o16 : jm_ok m (ad 16) 54 := Sm.ok 16 (Or.inl (by decide))
      have r16 : m.2.2.2.2 (ad 2) 5 = some (ad 16) := Sm.2.2.1 (2, 5, 16) (by decide)
      have l16 : (m.2.1 (ad 16)).2 = 9 := Sm.len 16 (Or.inl (by decide))
      have o26 : jm_ok m (ad 26) 54 := Sm.ok 26 (Or.inl (by decide))
      have r26 : m.2.2.2.2 (ad 2) 6 = some (ad 26) := Sm.2.2.1 (2, 6, 26) (by decide)
      have l26 : (m.2.1 (ad 26)).2 = 9 := Sm.len 26 (Or.inl (by decide))
      have q := fkok Sm ht
      have q2 := fkok Sm ht2
      have hR1 : FRs ad fk m0 (uI m (ad (17 + i)) f (nI 0)) := hR.tr (FRs.uI ht.kin ht)
      have hV1 := colF_put (x := 0) Sm hV ht
      have kk := ih (i + 1) (uI (uI m (ad (17 + i)) f (nI 0)) (ad (27 + i)) f (nI 0)) (by omega) (hR1.tr (FRs.uI ht2.kin ht2)) (colF_cg (colF_put (x := 0) (hR1.S S) hV1 ht2) (fun t ht => by
        by_cases e : t = 27 + i
        · subst e; rw [va_up_self, if_pos (by omega)]
        · rw [va_up_ne _ _ e]
          by_cases e : t = 17 + i
          · subst e; rw [va_up_self, if_pos (by omega)]
          · rw [va_up_ne _ _ e]; exact ite_iff (by omega)))
      rw [← nI_1] at kk
      refine jm_run hX [(13, [0, 1, 2, 3, 4])] 30 ?_
      refine And.intro (fun g => absurd g (nI_ge (show i < 9 by omega) (by decide))) (fun _ => ?_)
      refine And.intro (o2 Sm) ⟨some (ad 16), r16, And.intro o16 (And.intro (vin_of l16 (by omega) (by decide)) ⟨some (ad (17 + i)), ?_, ?_⟩)⟩
      · rw [nI_c (by omega)]; exact Sm.2.2.2.2.1 i (by omega)
      refine And.intro q.1 (And.intro (vin_of q.2 hf (by decide)) ?_)
      refine And.intro (o2 Sm) ⟨some (ad 26), r26, And.intro o26 (And.intro (vin_of l26 (by omega) (by decide)) ⟨some (ad (27 + i)), ?_, ?_⟩)⟩
      · show m.2.2.2.2 (ad 26) (nI i).toNatClampNeg = _
        rw [nI_c (by omega)]; exact Sm.2.2.2.2.2.1 i (by omega)
      refine And.intro q2.1 (And.intro (vin_of q2.2 hf (by decide)) ?_)
      have k2 : X 13 [(0, .ref (ad 2)), (1, .int (nI j)), (2, .int (nI k)), (3, .int (nI f)), (4, .int (nI i + 1))] [] (uI (uI m (ad (17 + i)) (nI f).toNatClampNeg (nI 0)) (ad (27 + i)) (nI f).toNatClampNeg (nI 0)) 0 0 := by
        rw [ecf]; exact kk
      exact k2
  refine jm_run hX [(13, [0, 1, 2, 3, 4])] 20 ?_
  refine And.intro (o2 S) ⟨some (ad 1), r1 S, ?_⟩
  refine And.intro (o1 S) (And.intro (Nat.le_of_ble_eq_true rfl) (And.intro (Nat.le_of_ble_eq_true rfl) ⟨0, 0, _, Nat.le_refl _, Nat.le_refl _, key0, fun v m' hq => ?_⟩))
  obtain ⟨ee, rfl⟩ := hq
  have ee := ee.symm
  subst ee
  refine first 9 0 m0 (by omega) FRs.rf (hF.cg (fun t c ht hc => ?_))
  show (if c = f then (if (17 ≤ t ∧ t < 17 + 0) ∨ (27 ≤ t ∧ t < 27 + 0) then 0 else F t f) else F t c) = F t c
  by_cases e : c = f
  · rw [if_pos e, if_neg (by omega), e]
  · rw [if_neg e]
end FL4
