section RB6
variable {l : Launch} {D : va_G} {ca : Nat → ClassId}
theorem FM25 {rd : Nat → Nat} {m : jm_M} {g : Nat → Int64} : FM rd dP m (uJA m (rd 25) g) := FM.uJA (i := 25) (Or.inr (Or.inl (by decide))) (Or.inr rfl)
theorem IOk.tr {rd : Nat → Nat} {m1 m2 m3 : jm_M} (h : IOk rd m1 m2) (g : IOk rd m2 m3) : IOk rd m1 m3 := fun j h1 h2 => (g j h1 h2).trans (h j h1 h2)
theorem bgv.up {rd : Nat → Nat} {m : jm_M} {V : Nat → Nat} {n X : Nat} (h : bgv (m.2.2.2.1 (rd 25)) V) (hX : X < bB ^ 24) : bgv ((uJA m (rd 25) (bup (m.2.2.2.1 (rd 25)) n X 24)).2.2.2.1 (rd 25)) (va_up V n X) := by
  show bgv (va_up m.2.2.2.1 (rd 25) _ (rd 25)) _
  rw [va_up_self]
  exact h.set hX
/-- what partOf answers -/
def pRes (A U pt : Nat) (below : Bool) : Int64 := if below then npart A U pt else lN (ppart A U pt)
theorem c_Mo_partOf {m0 : jm_M} {rd V0 : Nat → Nat} {bl : Bool} (S0 : MST m0 rd) (hg0 : bgv (m0.2.2.2.1 (rd 25)) V0) (hU : 0 < V0 1) (hU2 : V0 1 < bB ^ 22) (pt : Int32) (hpt : 0 ≤ pt.toInt ∧ pt.toInt ≤ 6) : jm_C l D ca n_Mo_partOf [.ref (rd 0), .int pt, .int (bI bl)] m0 0 0 (fun v m' => v = some (.long (pRes (V0 0) (V0 1) pt.toInt.toNat bl)) ∧ FM rd dP m0 m' ∧ IOk rd m0 m' ∧ ∃ V', bgv (m'.2.2.2.1 (rd 25)) V') := by
  refine jm_C_of (cd := cd_Mo_partOf) (ini := false) (by decide +kernel) ok_Mo_partOf (fun h => by cases h) (Nat.le_of_ble_eq_true rfl) ?_
  intro X hX
  have o0 : ∀ {m : jm_M}, MST m rd → jm_ok m (rd 0) 6 := fun S => S.ok (Or.inl (by decide))
  have ept : pt = nI pt.toInt.toNat := i_of hpt.1
  have hp6 : pt.toInt.toNat ≤ 6 := by omega
  have hU23 : V0 1 < bB ^ 23 := Nat.lt_of_lt_of_le hU2 (Nat.pow_le_pow_right (by decide) (by decide))
  generalize hpn : pt.toInt.toNat = pn at *
  generalize hUe : V0 1 = U at *
  generalize hAe : V0 0 = A at *
  -- the groups
  have loop : ∀ (q0 : Int64) (A' : Nat), (pn = 0 → q0 = pRes A U pn bl) → (∀ k, k + 1 = pn → lN (ppart A' U (k + 1)) = pRes A U pn bl) → ∀ (e k : Nat) (m : jm_M) (V : Nat → Nat), k + e = pn → FM rd dP m0 m → IOk rd m0 m → bgv (m.2.2.2.1 (rd 25)) V → V 1 = U → V 2 = prem A' U k → V 2 < U → X 72 [(0, .ref (rd 0)), (1, .int (nI pn)), (3, .long (if k = 0 then q0 else lN (ppart A' U k))), (5, .int (nI k))] [] m 0 0 := by
    intro q0 A' hq0 hqk e
    induction e with
    | zero =>
      intro k m V hk hF hI hb h1 h2 h3
      have hk2 : k = pn := by omega
      subst hk2
      refine jm_run hX [] 20 ?_
      refine And.intro (fun _ => ?_) (fun g => absurd (nI_le (Nat.le_refl k) (by omega)) (show ¬ nI k ≤ nI k from g))
      refine ⟨Nat.le_refl _, Nat.le_refl _, trivial, ?_, hF, hI, V, hb⟩
      show some (Value.long (if k = 0 then q0 else lN (ppart A' U k))) = _
      by_cases w : k = 0
      · rw [if_pos w, hq0 w]
      · rw [if_neg w]
        have := hqk (k - 1) (by omega)
        rw [show k - 1 + 1 = k by omega] at this
        rw [this]
    | succ e ih =>
      intro k m V hk hF hI hb h1 h2 h3
      have S := hF.S S0
      have kcp := c_Mo_copy (l := l) (D := D) (ca := ca) (a := 2) (b := 0) S hb (by decide) (by decide)
      refine jm_run hX [(72, [0, 1, 3, 5])] 30 ?_
      refine And.intro (fun g => absurd (show nI pn ≤ nI k from g) (nI_ge (by omega) (by omega))) (fun _ => ?_)
      refine And.intro (o0 S) (And.intro (Nat.le_of_ble_eq_true rfl) (And.intro (Nat.le_of_ble_eq_true rfl) ⟨0, 0, _, Nat.le_refl _, Nat.le_refl _, kcp, fun v m1 hq => ?_⟩))
      obtain ⟨rfl, em1⟩ := hq
      have hF1 : FM rd dP m0 m1 := by rw [em1]; exact hF.tr FM25
      have S1 := hF1.S S0
      have hb1 : bgv (m1.2.2.2.1 (rd 25)) (va_up V 0 (V 2)) := by rw [em1]; exact hb.up (hb 2 (by decide)).1
      have hI1 : IOk rd m0 m1 := fun j a b => by rw [em1]; exact hI j a b
      clear em1
      have hsz : V 2 * 1000000000 < bB ^ 24 := by
        have : V 2 * 1000000000 ≤ bB ^ 22 * bB ^ 2 := Nat.mul_le_mul (by omega) (by decide)
        have e : bB ^ 22 * bB ^ 2 = bB ^ 24 := by rw [← Nat.pow_add]
        have : V 2 * 1000000000 < bB ^ 22 * bB ^ 2 := Nat.lt_of_lt_of_le (Nat.mul_lt_mul_of_pos_right (show V 2 < bB ^ 22 by omega) (by decide)) (Nat.mul_le_mul_left _ (by decide))
        omega
      have kgr := c_Mo_grow (l := l) (D := D) (ca := ca) (n := 0) (b := 1000000000) (c := 0) S1 hb1 (by decide) (by decide) (by decide)
      rw [va_up_self, Nat.add_zero] at kgr
      refine And.intro (o0 S1) (And.intro (Nat.le_of_ble_eq_true rfl) (And.intro (Nat.le_of_ble_eq_true rfl) ⟨0, 0, _, Nat.le_refl _, Nat.le_refl _, kgr, fun v m2 hq => ?_⟩))
      obtain ⟨rfl, em2⟩ := hq
      have hF2 : FM rd dP m0 m2 := by rw [em2]; exact hF1.tr FM25
      have S2 := hF2.S S0
      have hb2 : bgv (m2.2.2.2.1 (rd 25)) (va_up V 0 (V 2 * 1000000000)) := by
        have := hb1.up (n := 0) hsz
        rw [vuu] at this
        rw [em2]; exact this
      have hI2 : IOk rd m0 m2 := fun j a b => by rw [em2]; exact hI1 j a b
      clear em2
      have kdv := c_Mo_divide (l := l) (D := D) (ca := ca) (n := 0) S2 hb2 (by decide) (by decide) (by rw [va_up_ne _ _ (by decide), h1]; exact hU) (by rw [va_up_ne _ _ (by decide), h1]; exact hU23)
      rw [va_up_self, va_up_ne _ _ (show 1 ≠ 0 by decide), h1, h2] at kdv
      refine And.intro (o0 S2) (And.intro (Nat.le_of_ble_eq_true rfl) (And.intro (Nat.le_of_ble_eq_true rfl) ⟨0, 0, _, Nat.le_refl _, Nat.le_refl _, kdv, fun v m3 hq => ?_⟩))
      obtain ⟨rfl, hF3, hI3, -, hb3⟩ := hq
      have kk := ih (k + 1) m3 _ (by omega) (hF2.tr hF3) (hI2.tr hI3) hb3 (by rw [va_up_ne _ _ (by decide), va_up_ne _ _ (by decide)]; exact h1) (by rw [va_up_self]; rfl) (by rw [va_up_self]; exact Nat.mod_lt _ hU)
      rw [if_neg (by omega), ← nI_1] at kk
      exact kk
  have k69 : ∀ (q0 : Int64) (A' : Nat), (pn = 0 → q0 = pRes A U pn bl) → (∀ k, k + 1 = pn → lN (ppart A' U (k + 1)) = pRes A U pn bl) → ∀ (m : jm_M) (V : Nat → Nat), FM rd dP m0 m → IOk rd m0 m → bgv (m.2.2.2.1 (rd 25)) V → V 1 = U → V 2 = prem A' U 0 → X 69 [(0, .ref (rd 0)), (1, .int (nI pn)), (3, .long q0)] [] m 0 0 := by
    intro q0 A' hq0 hqk m V hF hI hb h1 h2
    refine jm_run hX [(72, [0, 1, 3, 5])] 10 ?_
    have kk := loop q0 A' hq0 hqk pn 0 m V (by omega) hF hI hb h1 h2 (by rw [h2]; exact Nat.mod_lt _ hU)
    rw [if_pos rfl] at kk
    exact kk
  have kdv := c_Mo_divide (l := l) (D := D) (ca := ca) (n := 0) S0 hg0 (by decide) (by decide) (by rw [hUe]; exact hU) (by rw [hUe]; exact hU23)
  rw [hUe, hAe] at kdv
  have k14 : X 14 [(0, .ref (rd 0)), (1, .int (nI pn)), (2, .int (bI bl))] [] m0 0 0 := by
    refine jm_run hX [(24, [0, 1, 3]), (69, [0, 1, 3])] 20 ?_
    refine And.intro (o0 S0) (And.intro (Nat.le_of_ble_eq_true rfl) (And.intro (Nat.le_of_ble_eq_true rfl) ⟨0, 0, _, Nat.le_refl _, Nat.le_refl _, kdv, fun v m1 hq => ?_⟩))
    obtain ⟨rfl, hF1, hI1, -, hb1⟩ := hq
    have S1 := hF1.S S0
    cases bl with
    | false =>
      refine And.intro (fun _ => ?_) (fun g => absurd rfl g)
      exact k69 _ A (fun q => by rw [q]; rfl) (fun k hk => by rw [hk]; rfl) m1 _ hF1 hI1 hb1 (by rw [va_up_ne _ _ (by decide)]; exact hUe) (by rw [va_up_self]; rfl)
    | true =>
      refine And.intro (fun g => absurd g (by decide)) (fun _ => ?_)
      have kiz := c_Mo_isZero (l := l) (D := D) (ca := ca) (n := 2) S1 hb1 (by decide)
      rw [va_up_self] at kiz
      have k24 : X 24 [(0, .ref (rd 0)), (1, .int (nI pn)), (3, .long (lN (A / U)))] [] m1 0 0 := by
        refine jm_run hX [(51, [0, 1, 3]), (69, [0, 1, 3])] 40 ?_
        refine And.intro (o0 S1) (And.intro (Nat.le_of_ble_eq_true rfl) (And.intro (Nat.le_of_ble_eq_true rfl) ⟨0, 0, _, Nat.le_refl _, Nat.le_refl _, kiz, fun v m' hq => ?_⟩))
        obtain ⟨ee, rfl⟩ := hq
        have ee := ee.symm
        subst ee
        by_cases hz : A % U = 0
        · rw [if_pos hz]
          refine And.intro (fun g => absurd g (by decide)) (fun _ => ?_)
          refine And.intro (fun g => absurd g (by decide)) (fun _ => ?_)
          refine k69 _ 0 (fun q => by show _ = npart A U pn; unfold npart; rw [if_pos hz, if_pos q]) (fun k hk => ?_) m1 _ hF1 hI1 hb1 (by rw [va_up_ne _ _ (by decide)]; exact hUe) (by rw [va_up_self, hz]; exact (Nat.zero_mod U).symm)
          have hp0 : ∀ k, prem 0 U k = 0 := by
            intro k
            induction k with
            | zero => exact Nat.zero_mod U
            | succ k ih => show prem 0 U k * 1000000000 % U = 0; rw [ih, Nat.zero_mul, Nat.zero_mod]
          show lN (prem 0 U k * 1000000000 / U) = npart A U pn
          unfold npart
          rw [if_pos hz, if_neg (by omega), hp0, Nat.zero_mul, Nat.zero_div]; rfl
        · rw [if_neg hz]
          refine And.intro (fun _ => ?_) (fun g => absurd rfl g)
          refine And.intro (fun _ => ?_) (fun g => absurd rfl g)
          have hr := Nat.mod_lt A hU
          have k51 : X 51 [(0, .ref (rd 0)), (1, .int (nI pn)), (3, .long (-lN (A / U) - 1))] [] m1 0 0 := by
            have kc1 := c_Mo_copy (l := l) (D := D) (ca := ca) (a := 1) (b := 0) S1 hb1 (by decide) (by decide)
            refine jm_run hX [(69, [0, 1, 3])] 30 ?_
            refine And.intro (o0 S1) (And.intro (Nat.le_of_ble_eq_true rfl) (And.intro (Nat.le_of_ble_eq_true rfl) ⟨0, 0, _, Nat.le_refl _, Nat.le_refl _, kc1, fun v m2 hq => ?_⟩))
            obtain ⟨rfl, em2⟩ := hq
            have hF2 : FM rd dP m0 m2 := by rw [em2]; exact hF1.tr FM25
            have S2 := hF2.S S0
            have hb2 := hb1.up (rd := rd) (n := 0) (hb1 1 (by decide)).1
            rw [← em2] at hb2
            have hI2 : IOk rd m0 m2 := fun j a b => by rw [em2]; exact hI1 j a b
            clear em2
            generalize hV2 : va_up (va_up V0 2 (A % U)) 0 (va_up V0 2 (A % U) 1) = V2 at hb2
            have f0 : V2 0 = U := by rw [← hV2, va_up_self, va_up_ne _ _ (by decide)]; exact hUe
            have f1 : V2 1 = U := by rw [← hV2, va_up_ne _ _ (by decide), va_up_ne _ _ (by decide)]; exact hUe
            have f2 : V2 2 = A % U := by rw [← hV2, va_up_ne _ _ (by decide), va_up_self]
            have kls := c_Mo_lessen (l := l) (D := D) (ca := ca) (a := 0) (b := 2) S2 hb2 (by decide) (by decide) (by decide) (by rw [f0, f2]; omega)
            rw [f0, f2] at kls
            refine And.intro (o0 S2) (And.intro (Nat.le_of_ble_eq_true rfl) (And.intro (Nat.le_of_ble_eq_true rfl) ⟨0, 0, _, Nat.le_refl _, Nat.le_refl _, kls, fun v m3 hq => ?_⟩))
            obtain ⟨rfl, em3⟩ := hq
            have hF3 : FM rd dP m0 m3 := by rw [em3]; exact hF2.tr FM25
            have S3 := hF3.S S0
            have hb3 := hb2.up (rd := rd) (n := 0) (X := U - A % U) (Nat.lt_of_le_of_lt (Nat.sub_le _ _) (Nat.lt_trans hU23 (Nat.pow_lt_pow_right (by decide) (by decide))))
            rw [← em3] at hb3
            have hI3 : IOk rd m0 m3 := fun j a b => by rw [em3]; exact hI2 j a b
            clear em3
            have kc2 := c_Mo_copy (l := l) (D := D) (ca := ca) (a := 0) (b := 2) S3 hb3 (by decide) (by decide)
            refine And.intro (o0 S3) (And.intro (Nat.le_of_ble_eq_true rfl) (And.intro (Nat.le_of_ble_eq_true rfl) ⟨0, 0, _, Nat.le_refl _, Nat.le_refl _, kc2, fun v m4 hq => ?_⟩))
            obtain ⟨rfl, em4⟩ := hq
            have hb4 := hb3.up (rd := rd) (n := 2) (hb3 0 (by decide)).1
            rw [← em4] at hb4
            refine k69 _ (U - A % U) (fun q => by show _ = npart A U pn; unfold npart; rw [if_neg hz, if_pos q]) (fun k hk => ?_) m4 _ (by rw [em4]; exact hF3.tr FM25) (fun j a b => by rw [em4]; exact hI3 j a b) hb4 (by rw [va_up_ne _ _ (by decide), va_up_ne _ _ (by decide)]; exact f1) (by rw [va_up_self, va_up_self]; exact (Nat.mod_eq_of_lt (by omega)).symm)
            show _ = npart A U pn
            unfold npart
            rw [if_neg hz, if_neg (by omega), hk]
          exact k51
      exact k24
  rw [ept]
  refine jm_run hX [(14, [0, 1, 2])] 10 ?_
  refine And.intro (fun g => absurd (show nI pn < 0 from g) (nI_pos (by omega))) (fun _ => ?_)
  refine And.intro (fun _ => k14) (fun g => ?_)
  have g : ¬ nI pn ≤ nI 6 := g
  exact absurd (nI_le hp6 (by decide)) g
end RB6
