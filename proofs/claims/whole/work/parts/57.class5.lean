/-- 'known' is all that the owner may ask: numbers below, amounts and loads are of this size -/
theorem svN.sz {ds : LD} {F : Nat → Nat → Nat} {V : Nat → Nat} (hO : LOK ds) (h : svN ds F V) : (0 < V 118 ∧ V 118 ≤ 166320 ^ 9) ∧ (∀ p k, p < ds.1.2.2 → k < ds.1.1 → V (119 + (p * ds.1.1 + k)) ≤ 9 * (83160 * (166320 ^ 8 * 9000000))) ∧ ∀ j, j < ds.1.2.1 → V (128 + j) ≤ 3 * (83160 * (166320 ^ 8 * 9000000)) := by
  obtain ⟨hA, hG, h1, h2, h3⟩ := h
  have hn9 : ds.1.2.1 * ds.1.1 ≤ 9 := Nat.mul_le_mul hO.2.1 hO.1.2
  have hdd := am_d (f := f0 ds) hG hn9
  have hfeed : ds_nS (fun i => ds.2.2.2.2.2.2 i) (ds.1.2.1 * ds.1.1) ≤ 9000000 := by
    have := ds_nS_bd (f := fun i => ds.2.2.2.2.2.2 i) (c := 1000000) (n := ds.1.2.1 * ds.1.1) (fun i hi => hO.2.2.2.2.2.2.2.2 i (by omega))
    have : ds.1.2.1 * ds.1.1 * 1000000 ≤ 9 * 1000000 := Nat.mul_le_mul_right _ hn9
    omega
  have hz : ∀ i, i < ds.1.2.1 * ds.1.1 → zs F (ds.1.2.1 * ds.1.1) (f0 ds) 0 i ≤ 166320 ^ 8 * 9000000 := fun i hi => by
    have h2 := (am_C (f := f0 ds) (j := ds.1.2.1 * ds.1.1 + 0) (R := 9000000) hG hn9 hi (by omega) hfeed).2
    unfold zs; omega
  refine ⟨?_, fun p k hp hk => ?_, fun j hj => ?_⟩
  · rw [h1]; unfold dt; omega
  · rw [h2 p k hp hk]
    refine Nat.le_trans (ds_nS_bd (c := 83160 * (166320 ^ 8 * 9000000)) (fun i hi => ?_)) (Nat.mul_le_mul_right _ hn9)
    exact Nat.mul_le_mul (hG.2.1 _ (fk_l (row_lt hO.1.2 hO.2.2.1 hp hk)) i hi) (hz i hi)
  · rw [h3 j hj]
    refine Nat.le_trans (ds_nS_bd (c := 83160 * (166320 ^ 8 * 9000000)) (fun i hi => ?_)) (Nat.mul_le_mul_right _ hO.1.2)
    have hlt : j * ds.1.1 + i < ds.1.2.1 * ds.1.1 := by
      have := Nat.mul_le_mul_right ds.1.1 (show j + 1 ≤ ds.1.2.1 from hj)
      rw [Nat.add_mul, Nat.one_mul] at this
      omega
    exact Nat.mul_le_mul (hG.2.1 15 (Or.inl rfl) _ hlt) (hz _ hlt)
section SH5
variable {l : Launch} {D : va_G} {ca : Nat → ClassId}
theorem c_Sh_span {m : jm_M} {ad : Nat → Nat} {c : CSt} (h : CI m ad c) (x : Int32) (a b : Int64) : jm_C l D ca n_Sh_span [.ref (ad 0), .int x, .long a, .long b] m 0 0 (fun v m' => (v = some (.int 1) ∧ ((0 ≤ x.toInt ∧ x.toInt < (c.1.1.2.1 : Int)) ∧ 0 ≤ a.toInt ∧ a.toInt ≤ b.toInt ∧ b.toInt ≤ 1000000000) ∧ FRa ad m m' ∧ CI m' ad (c.1, va_up c.2.1 x.toInt.toNat true, va_up c.2.2.1 x.toInt.toNat a.toInt.toNat, va_up c.2.2.2.1 x.toInt.toNat b.toInt.toNat, c.2.2.2.2)) ∨ (v = some (.int 0) ∧ ¬ ((0 ≤ x.toInt ∧ x.toInt < (c.1.1.2.1 : Int)) ∧ 0 ≤ a.toInt ∧ a.toInt ≤ b.toInt ∧ b.toInt ≤ 1000000000) ∧ m' = m)) := by
  refine jm_C_of (cd := cd_Sh_span) (ini := false) (by decide +kernel) ok_Sh_span (fun h => by cases h) (Nat.le_of_ble_eq_true rfl) ?_
  intro X hX
  have S := h.1
  have L := h.2.1
  have hO := h.2.2.1
  have o0 : ∀ {m' : jm_M}, SST m' ad → jm_ok m' (ad 0) 5 := fun S => S.ok 0 (Or.inl (by decide))
  have o1 : ∀ {m' : jm_M}, SST m' ad → jm_ok m' (ad 1) 2 := fun S => S.ok 1 (Or.inl (by decide))
  have r1 : ∀ {m' : jm_M}, SST m' ad → m'.2.2.2.2 (ad 0) 0 = some (ad 1) := fun S => S.2.2.1 (0, 0, 1) (by decide)
  have o11 : jm_ok m (ad 11) 52 := S.ok 11 (Or.inl (by decide))
  have r11 : m.2.2.2.2 (ad 1) 9 = some (ad 11) := S.2.2.1 (1, 9, 11) (by decide)
  have l11 : (m.2.1 (ad 11)).2 = 3 := S.len 11 (Or.inl (by decide))
  have o12 : jm_ok m (ad 12) 51 := S.ok 12 (Or.inl (by decide))
  have r12 : m.2.2.2.2 (ad 1) 10 = some (ad 12) := S.2.2.1 (1, 10, 12) (by decide)
  have l12 : (m.2.1 (ad 12)).2 = 3 := S.len 12 (Or.inl (by decide))
  have o13 : jm_ok m (ad 13) 51 := S.ok 13 (Or.inl (by decide))
  have r13 : m.2.2.2.2 (ad 1) 11 = some (ad 13) := S.2.2.1 (1, 11, 13) (by decide)
  have l13 : (m.2.1 (ad 13)).2 = 3 := S.len 13 (Or.inl (by decide))
  have hM := hO.2.1
  have e0 : (0 : Int64).toInt = 0 := by decide
  have e9 : (1000000000 : Int64).toInt = 1000000000 := by decide
  refine jm_run hX [(35, [0, 1, 2, 4])] 40 ?_
  refine And.intro (o0 S) ⟨some (ad 1), r1 S, ?_⟩
  refine And.intro (o1 S) (And.intro (Nat.le_of_ble_eq_true rfl) (And.intro (Nat.le_of_ble_eq_true rfl) ⟨0, 0, _, Nat.le_refl _, Nat.le_refl _, c_Ln_hasMachine S L (by omega) x, fun v m' hq => ?_⟩))
  obtain ⟨ee, rfl⟩ := hq
  have ee := ee.symm
  subst ee
  by_cases h1 : 0 ≤ x.toInt ∧ x.toInt < (c.1.1.2.1 : Int)
  · rw [if_pos h1]
    refine And.intro (fun q => absurd q (by decide)) (fun _ => ?_)
    refine And.intro (fun q => ?_) (fun q => ?_)
    · have q : lg_cmp a 0 < 0 := q
      rw [lg_cmp_lt, Int64.lt_iff_toInt_lt, e0] at q
      exact ⟨Nat.le_refl _, Nat.le_refl _, Or.inl rfl, Or.inr ⟨rfl, by omega, rfl⟩⟩
    have q : ¬ lg_cmp a 0 < 0 := q
    rw [lg_cmp_lt, Int64.lt_iff_toInt_lt, e0] at q
    refine And.intro (fun q2 => ?_) (fun q2 => ?_)
    · have q2 : 0 < lg_cmp a b := q2
      rw [lg_cmp_gt, Int64.lt_iff_toInt_lt] at q2
      exact ⟨Nat.le_refl _, Nat.le_refl _, Or.inl rfl, Or.inr ⟨rfl, by omega, rfl⟩⟩
    have q2 : ¬ 0 < lg_cmp a b := q2
    rw [lg_cmp_gt, Int64.lt_iff_toInt_lt] at q2
    refine And.intro (fun q3 => ?_) (fun q3 => ?_)
    · have q3 : lg_cmp b 1000000000 ≤ 0 := q3
      rw [lg_cmp_le, Int64.le_iff_toInt_le, e9] at q3
      have ex : x = nI x.toInt.toNat := i_of h1.1
      have ea : a = lN a.toInt.toNat := l_of (by omega)
      have eb : b = lN b.toInt.toNat := l_of (by omega)
      have hx3 : x.toInt.toNat < 3 := by omega
      have key : X 35 [(0, .ref (ad 0)), (1, .int x), (2, .long a), (4, .long b)] [] m 0 0 := by
        have ecx : x.toNatClampNeg = x.toInt.toNat := rfl
        have vx : ∀ {N : Nat}, N = 3 → vp_in x N := fun hN => by rw [ex]; exact vin_of hN hx3 (by decide)
        refine jm_run hX [] 40 ?_
        refine And.intro (o0 S) ⟨some (ad 1), r1 S, And.intro (o1 S) ⟨some (ad 11), r11, And.intro o11 (And.intro (vx l11) (And.intro (Or.inr rfl) ?_))⟩⟩
        refine And.intro (o0 S) ⟨some (ad 1), r1 S, And.intro (o1 S) ⟨some (ad 12), r12, And.intro o12 (And.intro (vx l12) ?_)⟩⟩
        refine And.intro (o0 S) ⟨some (ad 1), r1 S, And.intro (o1 S) ⟨some (ad 13), r13, And.intro o13 (And.intro (vx l13) ?_)⟩⟩
        refine ⟨Nat.le_refl _, Nat.le_refl _, Or.inr rfl, Or.inl ⟨rfl, ⟨h1, by omega⟩, ?_⟩⟩
        rw [ecx]
        have hR : FRs ad (fun k => k = 11 ∨ k = 12 ∨ k = 13) m (uJ (uJ (uI m (ad 11) x.toInt.toNat 1) (ad 12) x.toInt.toNat a) (ad 13) x.toInt.toNat b) := ((FRs.uI (i := 11) (Or.inl (by decide)) (Or.inl rfl)).tr (FRs.uJ (i := 12) (Or.inl (by decide)) (Or.inr (Or.inl rfl)))).tr (FRs.uJ (i := 13) (Or.inl (by decide)) (Or.inr (Or.inr rfl)))
        obtain ⟨_, _, _, G, h11, h12, h13, h0, h3, V, hW, hKn⟩ := h
        have at' : ∀ k, kin k → k ≠ 11 → k ≠ 12 → k ≠ 13 → (uJ (uJ (uI m (ad 11) x.toInt.toNat 1) (ad 12) x.toInt.toNat a) (ad 13) x.toInt.toNat b).2.2.1 (ad k) = m.2.2.1 (ad k) := fun k hk z1 z2 z3 => (hR.at S hk (by omega)).1
        refine ⟨hR.a, hR.S S, hR.L S (fun k _ q => by omega) L, hO, G.mv S hR (by omega), ?_, ?_, ?_, ?_, ?_, V, hR.V S (fun k q => by omega) hW, fun hk => ?_⟩
        · show va_up m.2.2.1 (ad 11) (va_up (m.2.2.1 (ad 11)) x.toInt.toNat 1) (ad 11) = _
          rw [va_up_self, h11]
          exact gaR_up c.2.1 x.toInt.toNat
        · show va_up (va_up m.2.2.2.1 (ad 12) (va_up (m.2.2.2.1 (ad 12)) x.toInt.toNat a)) (ad 13) _ (ad 12) = _
          rw [va_up_ne _ _ (S.ne (Or.inl (by decide)) (Or.inl (by decide)) (by decide)), va_up_self, h12, ea, lNf_up, ← ea]
        · show va_up (va_up m.2.2.2.1 (ad 12) _) (ad 13) (va_up (va_up m.2.2.2.1 (ad 12) _ (ad 13)) x.toInt.toNat b) (ad 13) = _
          rw [va_up_self, va_up_ne _ _ (S.ne (Or.inl (by decide)) (Or.inl (by decide)) (by decide)), h13, eb, lNf_up, ← eb]
        · rw [at' 0 (Or.inl (by decide)) (by decide) (by decide) (by decide)]; exact h0
        · rw [at' 3 (Or.inl (by decide)) (by decide) (by decide) (by decide)]; exact h3
        · obtain ⟨k1, k2, k3, k4, k5⟩ := hKn hk
          exact ⟨by rw [at' 3 (Or.inl (by decide)) (by decide) (by decide) (by decide)]; exact k1, by rw [at' 3 (Or.inl (by decide)) (by decide) (by decide) (by decide)]; exact k2, k3, k4, k5⟩
      exact key
    · have q3 : ¬ lg_cmp b 1000000000 ≤ 0 := q3
      rw [lg_cmp_le, Int64.le_iff_toInt_le, e9] at q3
      exact ⟨Nat.le_refl _, Nat.le_refl _, Or.inl rfl, Or.inr ⟨rfl, by omega, rfl⟩⟩
  · rw [if_neg h1]
    refine And.intro (fun _ => ?_) (fun q => absurd rfl q)
    exact ⟨Nat.le_refl _, Nat.le_refl _, Or.inl rfl, Or.inr ⟨rfl, fun q => h1 q.1, rfl⟩⟩
end SH5
