/-- one of the line's rows has changed -/
theorem LnV.one {m : jm_M} {ad : Nat → Nat} {d d' : LD} {m' : jm_M} {p : Nat → Prop} (S : SST m ad) (L : LnV m ad d) (hR : FRs ad p m m') (e : d'.1 = d.1) (hp : ¬ p 1)
    (h5 : p 5 → m'.2.2.1 (ad 5) = fun i => nI (d'.2.1 i)) (h5' : ¬ p 5 → d'.2.1 = d.2.1) (h6 : p 6 → m'.2.2.1 (ad 6) = d'.2.2.1) (h6' : ¬ p 6 → d'.2.2.1 = d.2.2.1) (h7 : p 7 → m'.2.2.1 (ad 7) = fun i => nI (d'.2.2.2.1 i)) (h7' : ¬ p 7 → d'.2.2.2.1 = d.2.2.2.1)
    (h8 : p 8 → m'.2.2.1 (ad 8) = fun i => nI (d'.2.2.2.2.1 i)) (h8' : ¬ p 8 → d'.2.2.2.2.1 = d.2.2.2.2.1) (h9 : p 9 → m'.2.2.1 (ad 9) = fun i => nI (d'.2.2.2.2.2.1 i)) (h9' : ¬ p 9 → d'.2.2.2.2.2.1 = d.2.2.2.2.2.1) (h10 : p 10 → m'.2.2.2.1 (ad 10) = fun i => lN (d'.2.2.2.2.2.2 i)) (h10' : ¬ p 10 → d'.2.2.2.2.2.2 = d.2.2.2.2.2.2) : LnV m' ad d' := by
  obtain ⟨l1, l2, l3, l4, l5, l6, l7, l8, l9⟩ := L
  have at' : ∀ k, k < 15 → ¬ p k → m'.2.2.1 (ad k) = m.2.2.1 (ad k) ∧ m'.2.2.2.1 (ad k) = m.2.2.2.1 (ad k) := fun k hk q => hR.at S (Or.inl (by omega)) q
  refine ⟨?_, ?_, ?_, ?_, ?_, ?_, ?_, ?_, ?_⟩
  · rw [(at' 1 (by decide) hp).1, e]; exact l1
  · rw [(at' 1 (by decide) hp).1, e]; exact l2
  · rw [(at' 1 (by decide) hp).1, e]; exact l3
  · by_cases q : p 5
    · exact h5 q
    · rw [(at' 5 (by decide) q).1, h5' q]; exact l4
  · by_cases q : p 6
    · exact h6 q
    · rw [(at' 6 (by decide) q).1, h6' q]; exact l5
  · by_cases q : p 7
    · exact h7 q
    · rw [(at' 7 (by decide) q).1, h7' q]; exact l6
  · by_cases q : p 8
    · exact h8 q
    · rw [(at' 8 (by decide) q).1, h8' q]; exact l7
  · by_cases q : p 9
    · exact h9 q
    · rw [(at' 9 (by decide) q).1, h9' q]; exact l8
  · by_cases q : p 10
    · exact h10 q
    · rw [(at' 10 (by decide) q).2, h10' q]; exact l9
theorem l_of {x : Int64} (h : 0 ≤ x.toInt) : x = lN x.toInt.toNat := by
  obtain ⟨k, hk, e⟩ := pk_lOf (x := x) (by rw [Int64.lt_iff_toInt_lt]; show ¬ x.toInt < 0; omega)
  rw [e, pk_lT hk]
  rfl
theorem lNf_up (f : Nat → Nat) (x v : Nat) : va_up (fun i => lN (f i)) x (lN v) = fun i => lN (va_up f x v i) := by
  funext i
  by_cases h : i = x
  · subst h; rw [va_up_self, va_up_self]
  · rw [va_up_ne _ _ h, va_up_ne _ _ h]
section SH3
variable {l : Launch} {D : va_G} {ca : Nat → ClassId}
theorem c_Sh_joinOut {m : jm_M} {ad : Nat → Nat} {c : CSt} (h : CI m ad c) (x y t : Int32) : jm_C l D ca n_Sh_joinOut [.ref (ad 0), .int x, .int y, .int t] m 0 0 (fun v m' => (v = some (.int 1) ∧ ((0 ≤ x.toInt ∧ x.toInt < (c.1.1.2.1 : Int)) ∧ 0 ≤ y.toInt ∧ y.toInt < (c.1.2.1 x.toInt.toNat : Int)) ∧ jOK c.1.1.2.1 c.1.1.2.2 t ∧ FRa ad m m' ∧ CI m' ad (dJoin c.1 (3 * x.toInt.toNat + y.toInt.toNat) t, c.2.1, c.2.2.1, c.2.2.2.1, false, c.2.2.2.2.2.1, c.2.2.2.2.2.2)) ∨ (v = some (.int 0) ∧ ¬ (((0 ≤ x.toInt ∧ x.toInt < (c.1.1.2.1 : Int)) ∧ 0 ≤ y.toInt ∧ y.toInt < (c.1.2.1 x.toInt.toNat : Int)) ∧ jOK c.1.1.2.1 c.1.1.2.2 t) ∧ m' = m)) := by
  refine jm_C_of (cd := cd_Sh_joinOut) (ini := false) (by decide +kernel) ok_Sh_joinOut (fun h => by cases h) (Nat.le_of_ble_eq_true rfl) ?_
  intro X hX
  have S := h.1
  have L := h.2.1
  have hO := h.2.2.1
  have o0 : ∀ {m' : jm_M}, SST m' ad → jm_ok m' (ad 0) 5 := fun S => S.ok 0 (Or.inl (by decide))
  have o1 : ∀ {m' : jm_M}, SST m' ad → jm_ok m' (ad 1) 2 := fun S => S.ok 1 (Or.inl (by decide))
  have r1 : ∀ {m' : jm_M}, SST m' ad → m'.2.2.2.2 (ad 0) 0 = some (ad 1) := fun S => S.2.2.1 (0, 0, 1) (by decide)
  have o6 : jm_ok m (ad 6) 50 := S.ok 6 (Or.inl (by decide))
  have r6 : m.2.2.2.2 (ad 1) 4 = some (ad 6) := S.2.2.1 (1, 4, 6) (by decide)
  have l6 : (m.2.1 (ad 6)).2 = 9 := S.len 6 (Or.inl (by decide))
  have hM := hO.2.1
  refine jm_run hX [(25, [0, 1, 2, 3])] 30 ?_
  refine And.intro (o0 S) ⟨some (ad 1), r1 S, ?_⟩
  refine And.intro (o1 S) (And.intro (Nat.le_of_ble_eq_true rfl) (And.intro (Nat.le_of_ble_eq_true rfl) ⟨0, 0, _, Nat.le_refl _, Nat.le_refl _, c_Ln_hasOut S L hO x y, fun v m' hq => ?_⟩))
  obtain ⟨ee, rfl⟩ := hq
  have ee := ee.symm
  subst ee
  by_cases h1 : (0 ≤ x.toInt ∧ x.toInt < (c.1.1.2.1 : Int)) ∧ 0 ≤ y.toInt ∧ y.toInt < (c.1.2.1 x.toInt.toNat : Int)
  · rw [if_pos h1]
    refine And.intro (fun g => absurd g (by decide)) (fun _ => ?_)
    refine And.intro (o0 S) ⟨some (ad 1), r1 S, ?_⟩
    refine And.intro (o1 S) (And.intro (Nat.le_of_ble_eq_true rfl) (And.intro (Nat.le_of_ble_eq_true rfl) ⟨0, 0, _, Nat.le_refl _, Nat.le_refl _, c_Ln_hasTarget S L hO t, fun v m' hq => ?_⟩))
    obtain ⟨ee, hq⟩ := hq
    have ee := ee.symm
    subst ee
    rcases hq with ⟨rfl, hj⟩ | ⟨rfl, hj⟩
    · refine And.intro (fun g => absurd g (by decide)) (fun _ => ?_)
      have hou := hO.2.2.2.1 x.toInt.toNat (by omega)
      have ex : x = nI x.toInt.toNat := i_of h1.1.1
      have ey : y = nI y.toInt.toNat := i_of h1.2.1
      have hx3 : x.toInt.toNat < 3 := by omega
      have hy3 : y.toInt.toNat < 3 := by omega
      have key : X 25 [(0, .ref (ad 0)), (1, .int x), (2, .int y), (3, .int t)] [] m 0 0 := by
        have e : x * 3 + y = nI (3 * x.toInt.toNat + y.toInt.toNat) := by
          have e3 : (3 : Int32) = nI 3 := rfl
          calc x * 3 + y = nI x.toInt.toNat * nI 3 + nI y.toInt.toNat := by rw [← ex, ← ey, ← e3]
            _ = _ := by rw [pk_mul, nI_add, Nat.mul_comm]
        refine jm_run hX [] 30 ?_
        refine And.intro (o0 S) ⟨some (ad 1), r1 S, And.intro (o1 S) ⟨some (ad 6), r6, And.intro o6 (And.intro ?_ ?_)⟩⟩
        · show vp_in (x * 3 + y) (m.2.1 (ad 6)).2
          rw [e]; exact vin_of l6 (by omega) (by decide)
        refine And.intro (o0 S) (And.intro (Or.inl rfl) ?_)
        refine ⟨Nat.le_refl _, Nat.le_refl _, Or.inr rfl, Or.inl ⟨rfl, h1, hj, ?_⟩⟩
        have em : uI m (ad 6) (x * 3 + y).toNatClampNeg t = uI m (ad 6) (3 * x.toInt.toNat + y.toInt.toNat) t := by rw [e, nI_c (by omega)]
        have hR : FRs ad (fun k => k = 0 ∨ k = 6) m (uI (uI m (ad 6) (x * 3 + y).toNatClampNeg t) (ad 0) 3 0) := (FRs.uI (i := 6) (Or.inl (by decide)) (Or.inr rfl)).tr (FRs.uI (i := 0) (Or.inl (by decide)) (Or.inl rfl))
        refine ⟨hR.a, h.ln hR (fun k q => by omega) (L.one S hR rfl (by omega) (fun q => by omega) (fun _ => rfl) (fun _ => ?_) (fun q => by omega) (fun q => by omega) (fun _ => rfl) (fun q => by omega) (fun _ => rfl) (fun q => by omega) (fun _ => rfl) (fun q => by omega) (fun _ => rfl)) (hO.join hj) rfl ?_⟩
        · rw [em]
          show va_up (va_up m.2.2.1 (ad 6) _) (ad 0) _ (ad 6) = _
          rw [va_up_ne _ _ (S.ne (Or.inl (by decide)) (Or.inl (by decide)) (by decide)), va_up_self, L.2.2.2.2.1]
          rfl
        · show va_up _ (ad 0) (va_up _ 3 0) (ad 0) 3 = _
          rw [va_up_self, va_up_self]; rfl
      exact key
    · refine And.intro (fun _ => ?_) (fun g => absurd rfl g)
      exact ⟨Nat.le_refl _, Nat.le_refl _, Or.inl rfl, Or.inr ⟨rfl, fun q => hj q.2, rfl⟩⟩
  · rw [if_neg h1]
    refine And.intro (fun _ => ?_) (fun g => absurd rfl g)
    exact ⟨Nat.le_refl _, Nat.le_refl _, Or.inl rfl, Or.inr ⟨rfl, fun q => h1 q.1, rfl⟩⟩
theorem c_Sh_feed {m : jm_M} {ad : Nat → Nat} {c : CSt} (h : CI m ad c) (x y : Int32) (g : Int64) : jm_C l D ca n_Sh_feed [.ref (ad 0), .int x, .int y, .long g] m 0 0 (fun v m' => (v = some (.int 1) ∧ (((0 ≤ x.toInt ∧ x.toInt < (c.1.1.2.1 : Int)) ∧ 0 ≤ y.toInt ∧ y.toInt < (c.1.1.1 : Int)) ∧ 0 ≤ g.toInt ∧ g.toInt ≤ 1000000) ∧ FRa ad m m' ∧ CI m' ad (dFeed c.1 (x.toInt.toNat * c.1.1.1 + y.toInt.toNat) g.toInt.toNat, c.2.1, c.2.2.1, c.2.2.2.1, false, c.2.2.2.2.2.1, c.2.2.2.2.2.2)) ∨ (v = some (.int 0) ∧ ¬ (((0 ≤ x.toInt ∧ x.toInt < (c.1.1.2.1 : Int)) ∧ 0 ≤ y.toInt ∧ y.toInt < (c.1.1.1 : Int)) ∧ 0 ≤ g.toInt ∧ g.toInt ≤ 1000000) ∧ m' = m)) := by
  refine jm_C_of (cd := cd_Sh_feed) (ini := false) (by decide +kernel) ok_Sh_feed (fun h => by cases h) (Nat.le_of_ble_eq_true rfl) ?_
  intro X hX
  have S := h.1
  have L := h.2.1
  have hO := h.2.2.1
  have o0 : ∀ {m' : jm_M}, SST m' ad → jm_ok m' (ad 0) 5 := fun S => S.ok 0 (Or.inl (by decide))
  have o1 : ∀ {m' : jm_M}, SST m' ad → jm_ok m' (ad 1) 2 := fun S => S.ok 1 (Or.inl (by decide))
  have r1 : ∀ {m' : jm_M}, SST m' ad → m'.2.2.2.2 (ad 0) 0 = some (ad 1) := fun S => S.2.2.1 (0, 0, 1) (by decide)
  have o10 : jm_ok m (ad 10) 51 := S.ok 10 (Or.inl (by decide))
  have r10 : m.2.2.2.2 (ad 1) 8 = some (ad 10) := S.2.2.1 (1, 8, 10) (by decide)
  have l10 : (m.2.1 (ad 10)).2 = 9 := S.len 10 (Or.inl (by decide))
  have hK := hO.1
  have hM := hO.2.1
  have e0 : (0 : Int64).toInt = 0 := by decide
  have e6 : (1000000 : Int64).toInt = 1000000 := by decide
  refine jm_run hX [(28, [0, 1, 2, 3])] 30 ?_
  refine And.intro (o0 S) ⟨some (ad 1), r1 S, ?_⟩
  refine And.intro (o1 S) (And.intro (Nat.le_of_ble_eq_true rfl) (And.intro (Nat.le_of_ble_eq_true rfl) ⟨0, 0, _, Nat.le_refl _, Nat.le_refl _, c_Ln_hasRow S L hO x y, fun v m' hq => ?_⟩))
  obtain ⟨ee, rfl⟩ := hq
  have ee := ee.symm
  subst ee
  by_cases h1 : (0 ≤ x.toInt ∧ x.toInt < (c.1.1.2.1 : Int)) ∧ 0 ≤ y.toInt ∧ y.toInt < (c.1.1.1 : Int)
  · rw [if_pos h1]
    refine And.intro (fun q => absurd q (by decide)) (fun _ => ?_)
    refine And.intro (fun q => ?_) (fun q => ?_)
    · have q : lg_cmp g 0 < 0 := q
      rw [lg_cmp_lt, Int64.lt_iff_toInt_lt, e0] at q
      exact ⟨Nat.le_refl _, Nat.le_refl _, Or.inl rfl, Or.inr ⟨rfl, by omega, rfl⟩⟩
    have q : ¬ lg_cmp g 0 < 0 := q
    rw [lg_cmp_lt, Int64.lt_iff_toInt_lt, e0] at q
    refine And.intro (fun q2 => ?_) (fun q2 => ?_)
    · have q2 : lg_cmp g 1000000 ≤ 0 := q2
      rw [lg_cmp_le, Int64.le_iff_toInt_le, e6] at q2
      have ex : x = nI x.toInt.toNat := i_of h1.1.1
      have ey : y = nI y.toInt.toNat := i_of h1.2.1
      have eg : g = lN g.toInt.toNat := l_of (by omega)
      have hrow := row_lt (M := c.1.1.2.1) (j := x.toInt.toNat) (k := y.toInt.toNat) hK.2 hM (by omega) (by omega)
      have key0 := c_Ln_row (l := l) (D := D) (ca := ca) (j := x.toInt.toNat) (k := y.toInt.toNat) S L
      rw [← ex, ← ey] at key0
      generalize hrr : x.toInt.toNat * c.1.1.1 + y.toInt.toNat = rr at *
      have key : X 28 [(0, .ref (ad 0)), (1, .int x), (2, .int y), (3, .long g)] [] m 0 0 := by
        refine jm_run hX [] 30 ?_
        refine And.intro (o0 S) ⟨some (ad 1), r1 S, And.intro (o1 S) ⟨some (ad 10), r10, And.intro (o0 S) ⟨some (ad 1), r1 S, ?_⟩⟩⟩
        refine And.intro (o1 S) (And.intro (Nat.le_of_ble_eq_true rfl) (And.intro (Nat.le_of_ble_eq_true rfl) ⟨0, 0, _, Nat.le_refl _, Nat.le_refl _, key0, fun v m' hq => ?_⟩))
        obtain ⟨ee, rfl⟩ := hq
        have ee := ee.symm
        subst ee
        refine And.intro o10 (And.intro (vin_of l10 hrow (by decide)) ?_)
        refine And.intro (o0 S) (And.intro (Or.inl rfl) ?_)
        refine ⟨Nat.le_refl _, Nat.le_refl _, Or.inr rfl, Or.inl ⟨rfl, ⟨h1, by omega⟩, ?_⟩⟩
        have em : uJ m (ad 10) (nI rr).toNatClampNeg g = uJ m (ad 10) rr (lN g.toInt.toNat) := by rw [nI_c (by omega), ← eg]
        have hR : FRs ad (fun k => k = 0 ∨ k = 10) m (uI (uJ m (ad 10) (nI rr).toNatClampNeg g) (ad 0) 3 0) := (FRs.uJ (i := 10) (Or.inl (by decide)) (Or.inr rfl)).tr (FRs.uI (i := 0) (Or.inl (by decide)) (Or.inl rfl))
        refine ⟨hR.a, h.ln hR (fun k q => by omega) (L.one S hR rfl (by omega) (fun q => by omega) (fun _ => rfl) (fun q => by omega) (fun _ => rfl) (fun q => by omega) (fun _ => rfl) (fun q => by omega) (fun _ => rfl) (fun q => by omega) (fun _ => rfl) (fun _ => ?_) (fun q => by omega)) (hO.feed (by omega)) rfl ?_⟩
        · rw [em]
          show va_up m.2.2.2.1 (ad 10) (va_up (m.2.2.2.1 (ad 10)) rr (lN g.toInt.toNat)) (ad 10) = _
          rw [va_up_self, L.2.2.2.2.2.2.2.2, lNf_up]
          rfl
        · show va_up _ (ad 0) (va_up _ 3 0) (ad 0) 3 = _
          rw [va_up_self, va_up_self]; rfl
      exact key
    · have q2 : ¬ lg_cmp g 1000000 ≤ 0 := q2
      rw [lg_cmp_le, Int64.le_iff_toInt_le, e6] at q2
      exact ⟨Nat.le_refl _, Nat.le_refl _, Or.inl rfl, Or.inr ⟨rfl, by omega, rfl⟩⟩
  · rw [if_neg h1]
    refine And.intro (fun _ => ?_) (fun q => absurd rfl q)
    exact ⟨Nat.le_refl _, Nat.le_refl _, Or.inl rfl, Or.inr ⟨rfl, fun q => h1 q.1, rfl⟩⟩
end SH3
