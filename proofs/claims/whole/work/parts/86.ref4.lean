theorem bB_p (k : Nat) : bB ^ k = 2 ^ (28 * k) := by
  show (2 ^ 28) ^ k = 2 ^ (28 * k)
  rw [Nat.pow_mul]
theorem dg_bit (X b : Nat) : dg X (b / 28) / 2 ^ (b % 28) % 2 = X / 2 ^ b % 2 := by
  unfold dg
  rw [bB_p, ← Nat.toNat_testBit, ← Nat.toNat_testBit]
  congr 1
  show (X / 2 ^ (28 * (b / 28)) % 2 ^ 28).testBit (b % 28) = _
  rw [Nat.testBit_mod_two_pow, Nat.testBit_div_two_pow]
  have h1 : b % 28 < 28 := Nat.mod_lt _ (by decide)
  have h2 : b % 28 + 28 * (b / 28) = b := by omega
  rw [h2, decide_eq_true h1, Bool.true_and]
theorem bgv.setu {g : Nat → Int64} {V : Nat → Nat} {n X u : Nat} (h : bgv g V) (hn : n < 6) (hX : X < bB ^ u) (hV : V n < bB ^ u) (hu : u ≤ 24) : bgv (bup g n X u) (va_up V n X) := fun i hi => by
  by_cases e : i = n
  · subst e
    rw [va_up_self]
    refine ⟨Nat.lt_of_lt_of_le hX (Nat.pow_le_pow_right (by decide) hu), fun k hk => ?_⟩
    rcases Nat.lt_or_ge k u with w | w
    · exact bup_lo w
    · rw [bup_hi (by omega), (h i hi).2 k hk, dg_hi hV w, dg_hi hX w]
  · rw [va_up_ne _ _ e]
    refine ⟨(h i hi).1, fun k hk => ?_⟩
    rw [bup_hi (by omega)]
    exact (h i hi).2 k hk
/-- one more bit of a quotient -/
theorem qd_s {X U t : Nat} (hU : 0 < U) : X / 2 ^ t = X / 2 ^ (t + 1) * 2 + X / 2 ^ t % 2 ∧ X / 2 ^ t / U = X / 2 ^ (t + 1) / U * 2 + (if X / 2 ^ (t + 1) % U * 2 + X / 2 ^ t % 2 < U then 0 else 1) ∧ X / 2 ^ t % U = X / 2 ^ (t + 1) % U * 2 + X / 2 ^ t % 2 - (if X / 2 ^ (t + 1) % U * 2 + X / 2 ^ t % 2 < U then 0 else U) := by
  have e : X / 2 ^ t = X / 2 ^ (t + 1) * 2 + X / 2 ^ t % 2 := by
    have h1 : X / 2 ^ (t + 1) = X / 2 ^ t / 2 := by rw [Nat.pow_succ, Nat.div_div_eq_div_mul]
    rw [h1]; omega
  refine ⟨e, ?_⟩
  have hb : X / 2 ^ t % 2 < 2 := Nat.mod_lt _ (by decide)
  generalize X / 2 ^ t % 2 = b at *
  rw [e]
  generalize X / 2 ^ (t + 1) = P
  have h1 := Nat.div_add_mod P U
  have h2 := Nat.mod_lt P hU
  generalize P / U = q at *
  generalize P % U = r at *
  have e2 : P * 2 + b = U * (q * 2) + (r * 2 + b) := by
    rw [← h1]
    have : (U * q + r) * 2 = U * (q * 2) + r * 2 := by grind
    omega
  by_cases w : r * 2 + b < U
  · rw [if_pos w, if_pos w, e2, Nat.mul_add_div hU, Nat.mul_add_mod, Nat.div_eq_of_lt w, Nat.mod_eq_of_lt w]
    omega
  · rw [if_neg w, if_neg w]
    have e3 : P * 2 + b = U * (q * 2 + 1) + (r * 2 + b - U) := by
      rw [e2, Nat.mul_add]; omega
    have w2 : r * 2 + b - U < U := by omega
    rw [e3, Nat.mul_add_div hU, Nat.mul_add_mod, Nat.div_eq_of_lt w2, Nat.mod_eq_of_lt w2]
    omega
section RB4
variable {l : Launch} {D : va_G} {ca : Nat → ClassId}
/-- what stays of the object's ints -/
def IOk (rd : Nat → Nat) (m m' : jm_M) : Prop := ∀ j, j ≠ 28 → j ≠ 29 → m'.2.2.1 (rd 0) j = m.2.2.1 (rd 0) j
abbrev dP (k : Nat) : Prop := k = 0 ∨ k = 25
theorem c_Mo_divide {m0 : jm_M} {rd V : Nat → Nat} {n : Nat} (S0 : MST m0 rd) (hg0 : bgv (m0.2.2.2.1 (rd 25)) V) (hn : n < 6) (hn2 : n ≠ 2) (hU : 0 < V 1) (hU2 : V 1 < bB ^ 23) : jm_C l D ca n_Mo_divide [.ref (rd 0), .int (nI n)] m0 0 0 (fun v m' => v = some (.long (lN (V n / V 1))) ∧ FM rd dP m0 m' ∧ IOk rd m0 m' ∧ m'.2.2.1 (rd 0) 29 = bI (decide (2 ^ 62 ≤ V n / V 1)) ∧ bgv (m'.2.2.2.1 (rd 25)) (va_up V 2 (V n % V 1))) := by
  refine jm_C_of (cd := cd_Mo_divide) (ini := false) (by decide +kernel) ok_Mo_divide (fun h => by cases h) (Nat.le_of_ble_eq_true rfl) ?_
  intro X hX
  have o0 : ∀ {m : jm_M}, MST m rd → jm_ok m (rd 0) 6 := fun S => S.ok (Or.inl (by decide))
  have r25 : ∀ {m : jm_M}, MST m rd → m.2.2.2.2 (rd 0) 25 = some (rd 25) := fun S => S.2.2 25 (Or.inr (Or.inl (by decide))) (by decide)
  have o25 : ∀ {m : jm_M}, MST m rd → jm_ok m (rd 25) 51 := fun S => S.ok (k := 25) (Or.inr (Or.inl (by decide)))
  have l25 : ∀ {m : jm_M}, MST m rd → (m.2.1 (rd 25)).2 = 144 := fun S => S.len (k := 25) (Or.inr (Or.inl (by decide)))
  have ne0 : rd 0 ≠ rd 25 := S0.ne (Or.inl (by decide)) (Or.inr (Or.inl (by decide))) (by decide)
  have FM0 : ∀ {m : jm_M} {k : Nat} {x : Int32}, FM rd dP m (uI m (rd 0) k x) := FM.uI (i := 0) (Or.inl (by decide)) (Or.inl rfl)
  have FM25 : ∀ {m : jm_M} {g : Nat → Int64}, FM rd dP m (uJA m (rd 25) g) := FM.uJA (i := 25) (Or.inr (Or.inl (by decide))) (Or.inr rfl)
  have loop : ∀ (u : Nat), u ≤ 24 → V 1 * 2 ≤ bB ^ u → ∀ (t : Nat) (m : jm_M), t ≤ 672 → FM rd dP m0 m → IOk rd m0 m → m.2.2.1 (rd 0) 28 = nI u → m.2.2.1 (rd 0) 29 = bI (decide (2 ^ 62 ≤ V n / 2 ^ t / V 1)) → bgv (m.2.2.2.1 (rd 25)) (va_up V 2 (V n / 2 ^ t % V 1)) → X 35 [(0, .ref (rd 0)), (1, .int (nI n)), (2, .long (lN (V n / 2 ^ t / V 1))), (4, .int (nI t + (-1)))] [] m 0 0 := by
    intro u hu hUu t
    induction t with
    | zero =>
      intro m _ hF hI h28 h29 hb
      rw [Nat.pow_zero, Nat.div_one] at h29 hb ⊢
      refine jm_run hX [] 20 ?_
      refine And.intro (fun _ => ?_) (fun g => absurd (show (nI 0 + (-1) : Int32) < 0 by decide) g)
      exact ⟨Nat.le_refl _, Nat.le_refl _, trivial, rfl, hF, hI, h29, hb⟩
    | succ t ih =>
      intro m ht hF hI h28 h29 hb
      have S := hF.S S0
      rw [nI_prd t]
      obtain ⟨q1, q2, q3⟩ := qd_s (X := V n) (t := t) hU
      have hb2 : V n / 2 ^ t % 2 < 2 := Nat.mod_lt _ (by decide)
      have hr := Nat.mod_lt (V n / 2 ^ (t + 1)) hU
      have ed : nI t / 28 = nI (t / 28) := pk_div (a := t) (d := 28) (by omega) (by decide) (by decide)
      have em : nI t - nI t / 28 * 28 = nI (t % 28) := pk_rem (a := t) (d := 28) (by omega) (by decide) (by decide)
      have ei : (24 : Int32) * nI n + nI t / 28 = nI (24 * n + t / 28) := by rw [ed]; exact ix24 n _
      have htd : t / 28 < 24 := by omega
      have hin : vp_in ((24 : Int32) * nI n + nI t / 28) (m.2.1 (rd 25)).2 := by rw [ei]; exact vin_of (l25 S) (by omega) (by decide)
      have ew : m.2.2.2.1 (rd 25) ((24 : Int32) * nI n + nI t / 28).toNatClampNeg = lN (dg (V n) (t / 28)) := by
        rw [ei, nI_c (by omega)]
        have := (hb n hn).2 (t / 28) htd
        rw [va_up_ne _ _ hn2] at this
        exact this
      have hdl : dg (V n) (t / 28) < 268435456 := dg_lt _ _
      have ebit : (m.2.2.2.1 (rd 25) ((24 : Int32) * nI n + nI t / 28).toNatClampNeg >>> ((nI t - nI t / 28 * 28).toInt64 &&& 63)) &&& 1 = lN (V n / 2 ^ t % 2) := by
        rw [ew, em, sh_r (by omega) (by omega), wb_a1 (Nat.lt_of_le_of_lt (Nat.div_le_self _ _) (by omega)), dg_bit]
      have e28 : (28 : Int32) ≠ 0 := by decide
      -- the step after the bit has come in
      have hL : va_up V 2 (V n / 2 ^ (t + 1) % V 1) 2 * 2 + V n / 2 ^ t % 2 < bB ^ u := by rw [va_up_self]; omega
      have kgu := c_Mo_growUsed (l := l) (D := D) (ca := ca) (c := V n / 2 ^ t % 2) S hb h28 hu (by omega) hL
      rw [va_up_self] at kgu hL
      have tail : ∀ (m2 : jm_M) (bb : Bool), FM rd dP m0 m2 → IOk rd m0 m2 → m2.2.2.1 (rd 0) 28 = nI u → bb = decide (2 ^ 62 ≤ V n / 2 ^ t / V 1) → bgv (m2.2.2.2.1 (rd 25)) (va_up V 2 (V n / 2 ^ (t + 1) % V 1 * 2 + V n / 2 ^ t % 2)) → X 89 [(0, .ref (rd 0)), (1, .int (nI n)), (2, .long (lN (V n / 2 ^ (t + 1) / V 1))), (4, .int (nI t))] [.int (bI bb), .ref (rd 0)] m2 0 0 := by
        intro m2 bb hF2 hI2 h282 hbb hb2'
        have S2 := hF2.S S0
        have hU1 : va_up V 2 (V n / 2 ^ (t + 1) % V 1 * 2 + V n / 2 ^ t % 2) 1 = V 1 := va_up_ne _ _ (by decide)
        generalize hm3 : uI m2 (rd 0) 29 (bI bb) = m3
        have hF3 : FM rd dP m0 m3 := by rw [← hm3]; exact hF2.tr FM0
        have S3 := hF3.S S0
        have hI3 : IOk rd m0 m3 := fun j h1 h2 => by
          rw [← hm3]
          show va_up m2.2.2.1 (rd 0) (va_up (m2.2.2.1 (rd 0)) 29 (bI bb)) (rd 0) j = _
          rw [va_up_self, va_up_ne _ _ h2]; exact hI2 j h1 h2
        have h283 : m3.2.2.1 (rd 0) 28 = nI u := by
          rw [← hm3]
          show va_up m2.2.2.1 (rd 0) (va_up (m2.2.2.1 (rd 0)) 29 (bI bb)) (rd 0) 28 = _
          rw [va_up_self, va_up_ne _ _ (by decide)]; exact h282
        have h293 : m3.2.2.1 (rd 0) 29 = bI bb := by
          rw [← hm3]
          show va_up m2.2.2.1 (rd 0) (va_up (m2.2.2.1 (rd 0)) 29 (bI bb)) (rd 0) 29 = _
          rw [va_up_self, va_up_self]
        have hb3 : bgv (m3.2.2.2.1 (rd 25)) (va_up V 2 (V n / 2 ^ (t + 1) % V 1 * 2 + V n / 2 ^ t % 2)) := by rw [← hm3]; exact hb2'
        have kll := c_Mo_isLeftLess (l := l) (D := D) (ca := ca) S3 hb3 h283 hu (by rw [va_up_self]; exact hL) (by rw [hU1]; omega)
        rw [va_up_self, hU1] at kll
        have k98 : X 98 [(0, .ref (rd 0)), (1, .int (nI n)), (2, .long (lN (V n / 2 ^ (t + 1) / V 1 * 2))), (4, .int (nI t))] [] m3 0 0 := by
          refine jm_run hX [(105, [0, 1, 2, 4]), (113, [0, 1, 2, 4])] 20 ?_
          refine And.intro (o0 S3) (And.intro (Nat.le_of_ble_eq_true rfl) (And.intro (Nat.le_of_ble_eq_true rfl) ⟨0, 0, _, Nat.le_refl _, Nat.le_refl _, kll, fun v m' hq => ?_⟩))
          obtain ⟨ee, rfl⟩ := hq
          have ee := ee.symm
          subst ee
          by_cases w : V n / 2 ^ (t + 1) % V 1 * 2 + V n / 2 ^ t % 2 < V 1
          · rw [if_pos w] at q2 q3 ⊢
            refine And.intro (fun g => absurd g (by decide)) (fun _ => ?_)
            have k113 : X 113 [(0, .ref (rd 0)), (1, .int (nI n)), (2, .long (lN (V n / 2 ^ (t + 1) / V 1 * 2))), (4, .int (nI t))] [] m3 0 0 := by
              refine jm_run hX [(35, [0, 1, 2, 4])] 5 ?_
              have kk := ih m3 (by omega) hF3 hI3 h283 (by rw [h293, hbb]) (by rw [q3, Nat.sub_zero]; exact hb3)
              rw [q2, Nat.add_zero] at kk
              exact kk
            exact k113
          · rw [if_neg w] at q2 q3 ⊢
            refine And.intro (fun _ => ?_) (fun g => absurd rfl g)
            have kle := c_Mo_lessenLeft (l := l) (D := D) (ca := ca) S3 hb3 h283 hu (by rw [va_up_self, hU1]; omega)
            rw [va_up_self, hU1] at kle
            have k105 : X 105 [(0, .ref (rd 0)), (1, .int (nI n)), (2, .long (lN (V n / 2 ^ (t + 1) / V 1 * 2))), (4, .int (nI t))] [] m3 0 0 := by
              refine jm_run hX [(35, [0, 1, 2, 4])] 20 ?_
              refine And.intro (o0 S3) (And.intro (Nat.le_of_ble_eq_true rfl) (And.intro (Nat.le_of_ble_eq_true rfl) ⟨0, 0, _, Nat.le_refl _, Nat.le_refl _, kle, fun v m4 hq => ?_⟩))
              obtain ⟨rfl, em4⟩ := hq
              have hb4 : bgv (m4.2.2.2.1 (rd 25)) (va_up V 2 (V n / 2 ^ (t + 1) % V 1 * 2 + V n / 2 ^ t % 2 - V 1)) := by
                have := hb3.setu (n := 2) (X := V n / 2 ^ (t + 1) % V 1 * 2 + V n / 2 ^ t % 2 - V 1) (u := u) (by decide) (by omega) (by rw [va_up_self]; omega) hu
                rw [vuu] at this
                rw [em4]
                show bgv (va_up m3.2.2.2.1 (rd 25) _ (rd 25)) _
                rw [va_up_self]; exact this
              have hF4 : FM rd dP m0 m4 := by rw [em4]; exact hF3.tr FM25
              have kk := ih m4 (by omega) hF4 (fun j h1 h2 => by rw [em4]; exact hI3 j h1 h2) (by rw [em4]; exact h283) (by rw [em4]; show m3.2.2.1 (rd 0) 29 = _; rw [h293, hbb]) (by rw [q3]; exact hb4)
              rw [q2, ← lN_1] at kk
              exact kk
            exact k105
        refine jm_run hX [(98, [0, 1, 2, 4])] 10 ?_
        refine And.intro (o0 S2) (And.intro ?_ ?_)
        · show bI bb = 0 ∨ bI bb = 1
          cases bb
          · exact Or.inl rfl
          · exact Or.inr rfl
        rw [hm3]
        have e2 : lN 2 * lN (V n / 2 ^ (t + 1) / V 1) = lN (V n / 2 ^ (t + 1) / V 1 * 2) := by rw [lN_mul, Nat.mul_comm]
        rw [← e2] at k98
        exact k98
      refine jm_run hX [(89, [0, 1, 2, 4])] 60 ?_
      refine And.intro (fun g => absurd (show nI t < 0 from g) (nI_pos (by omega))) (fun _ => ?_)
      refine And.intro (o0 S) ⟨some (rd 25), r25 S, And.intro e28 (And.intro (o25 S) (And.intro hin (And.intro e28 ?_)))⟩
      rw [← ebit] at kgu
      refine And.intro (o0 S) (And.intro (Nat.le_of_ble_eq_true rfl) (And.intro (Nat.le_of_ble_eq_true rfl) ⟨0, 0, _, Nat.le_refl _, Nat.le_refl _, kgu, fun v m2 hq => ?_⟩))
      obtain ⟨rfl, em2⟩ := hq
      have hF2 : FM rd dP m0 m2 := by rw [em2]; exact hF.tr FM25
      have S2 := hF2.S S0
      have hI2 : IOk rd m0 m2 := fun j h1 h2 => by rw [em2]; exact hI j h1 h2
      have h282 : m2.2.2.1 (rd 0) 28 = nI u := by rw [em2]; exact h28
      have h292 : m2.2.2.1 (rd 0) 29 = bI (decide (2 ^ 62 ≤ V n / 2 ^ (t + 1) / V 1)) := by rw [em2]; exact h29
      have hb2' : bgv (m2.2.2.2.1 (rd 25)) (va_up V 2 (V n / 2 ^ (t + 1) % V 1 * 2 + V n / 2 ^ t % 2)) := by
        have := hb.setu (n := 2) (X := V n / 2 ^ (t + 1) % V 1 * 2 + V n / 2 ^ t % 2) (u := u) (by decide) hL (by rw [va_up_self]; omega) hu
        rw [vuu] at this
        rw [em2]
        show bgv (va_up m.2.2.2.1 (rd 25) _ (rd 25)) _
        rw [va_up_self]; exact this
      have kt := tail m2
      refine And.intro (o0 S2) ?_
      have hQ : V n / 2 ^ (t + 1) / V 1 * 2 ≤ V n / 2 ^ t / V 1 ∧ V n / 2 ^ t / V 1 ≤ V n / 2 ^ (t + 1) / V 1 * 2 + 1 := by
        rw [q2]; split <;> omega
      by_cases hbey : 2 ^ 62 ≤ V n / 2 ^ (t + 1) / V 1
      · have e1 : m2.2.2.1 (rd 0) 29 = 1 := by rw [h292, decide_eq_true hbey]; rfl
        refine And.intro (fun g => ?_) (fun _ => ?_)
        · have g : m2.2.2.1 (rd 0) 29 = 0 := g
          rw [e1] at g; exact absurd g (by decide)
        · exact kt true hF2 hI2 h282 (decide_eq_true (by omega)).symm hb2'
      · have e1 : m2.2.2.1 (rd 0) 29 = 0 := by rw [h292, decide_eq_false hbey]; rfl
        refine And.intro (fun _ => ?_) (fun g => ?_)
        rotate_left 1
        · have g : ¬ m2.2.2.1 (rd 0) 29 = 0 := g
          exact absurd e1 g
        have es : lN (V n / 2 ^ (t + 1) / V 1) >>> ((61 : Int32).toInt64 &&& 63) = lN (V n / 2 ^ (t + 1) / V 1 / 2 ^ 61) := sh_r (k := 61) (by omega) (by decide)
        refine And.intro (fun g => ?_) (fun g => ?_)
        · have g : lg_cmp (lN (V n / 2 ^ (t + 1) / V 1) >>> ((61 : Int32).toInt64 &&& 63)) (lN 0) = 0 := g
          rw [es, lg_cmp_eq, pk_lEQ (Nat.lt_of_le_of_lt (Nat.div_le_self _ _) (by omega)) (by decide)] at g
          exact kt false hF2 hI2 h282 (decide_eq_false (by omega)).symm hb2'
        · have g : ¬ lg_cmp (lN (V n / 2 ^ (t + 1) / V 1) >>> ((61 : Int32).toInt64 &&& 63)) (lN 0) = 0 := g
          rw [es, lg_cmp_eq, pk_lEQ (Nat.lt_of_le_of_lt (Nat.div_le_self _ _) (by omega)) (by decide)] at g
          exact kt true hF2 hI2 h282 (decide_eq_true (by omega)).symm hb2'
  -- the beginning
  generalize hm1 : uI m0 (rd 0) 29 0 = m1
  have hF1 : FM rd dP m0 m1 := by rw [← hm1]; exact FM0
  have S1 := hF1.S S0
  have hg1 : bgv (m1.2.2.2.1 (rd 25)) V := by rw [← hm1]; exact hg0
  have h291 : m1.2.2.1 (rd 0) 29 = 0 := by
    rw [← hm1]
    show va_up m0.2.2.1 (rd 0) (va_up (m0.2.2.1 (rd 0)) 29 0) (rd 0) 29 = 0
    rw [va_up_self, va_up_self]
  have hI1 : ∀ j, j ≠ 29 → m1.2.2.1 (rd 0) j = m0.2.2.1 (rd 0) j := fun j h2 => by
    rw [← hm1]
    show va_up m0.2.2.1 (rd 0) (va_up (m0.2.2.1 (rd 0)) 29 0) (rd 0) j = _
    rw [va_up_self, va_up_ne _ _ h2]
  have kcl := c_Mo_clear (l := l) (D := D) (ca := ca) (n := 2) S1 (by decide)
  have k5 : X 5 [(0, .ref (rd 0)), (1, .int (nI n))] [] m1 0 0 := by
    refine jm_run hX [(21, [0, 1])] 30 ?_
    refine And.intro (o0 S1) (And.intro (Nat.le_of_ble_eq_true rfl) (And.intro (Nat.le_of_ble_eq_true rfl) ⟨0, 0, _, Nat.le_refl _, Nat.le_refl _, kcl, fun v m2 hq => ?_⟩))
    obtain ⟨rfl, em2⟩ := hq
    have hF2 : FM rd dP m0 m2 := by rw [em2]; exact hF1.tr FM25
    have S2 := hF2.S S0
    have hb2 : bgv (m2.2.2.2.1 (rd 25)) (va_up V 2 0) := by
      rw [em2]
      show bgv (va_up m1.2.2.2.1 (rd 25) _ (rd 25)) _
      rw [va_up_self]
      exact hg1.set (bp 24)
    have h292 : m2.2.2.1 (rd 0) 29 = 0 := by rw [em2]; exact h291
    have hI2 : ∀ j, j ≠ 29 → m2.2.2.1 (rd 0) j = m0.2.2.1 (rd 0) j := fun j h2 => by rw [em2]; exact hI1 j h2
    clear em2
    have kw1 := c_Mo_wordsOf (l := l) (D := D) (ca := ca) (n := 1) S2 hb2 (by decide)
    refine And.intro (o0 S2) (And.intro (Nat.le_of_ble_eq_true rfl) (And.intro (Nat.le_of_ble_eq_true rfl) ⟨0, 0, _, Nat.le_refl _, Nat.le_refl _, kw1, fun v m' hq => ?_⟩))
    obtain ⟨ee, w1, hw1, rfl, hv1, hv1'⟩ := hq
    have ee := ee.symm
    subst ee
    rw [va_up_ne _ _ (show 1 ≠ 2 by decide)] at hv1 hv1'
    have hw23 : w1 ≤ 23 := by
      rcases Nat.lt_or_ge 23 w1 with w | w
      · have := hv1' 23 w; omega
      · exact w
    refine And.intro (o0 S2) ?_
    generalize hm3 : uI m2 (rd 0) 28 (nI w1 + 1) = m3
    have hF3 : FM rd dP m0 m3 := by rw [← hm3]; exact hF2.tr FM0
    have S3 := hF3.S S0
    have hb3 : bgv (m3.2.2.2.1 (rd 25)) (va_up V 2 0) := by rw [← hm3]; exact hb2
    have h283 : m3.2.2.1 (rd 0) 28 = nI (w1 + 1) := by
      rw [← hm3, ← nI_1]
      show va_up m2.2.2.1 (rd 0) (va_up (m2.2.2.1 (rd 0)) 28 (nI w1 + 1)) (rd 0) 28 = _
      rw [va_up_self, va_up_self]
    have h293 : m3.2.2.1 (rd 0) 29 = 0 := by
      rw [← hm3]
      show va_up m2.2.2.1 (rd 0) (va_up (m2.2.2.1 (rd 0)) 28 (nI w1 + 1)) (rd 0) 29 = _
      rw [va_up_self, va_up_ne _ _ (by decide)]; exact h292
    have hI3 : IOk rd m0 m3 := fun j h1 h2 => by
      rw [← hm3]
      show va_up m2.2.2.1 (rd 0) (va_up (m2.2.2.1 (rd 0)) 28 (nI w1 + 1)) (rd 0) j = _
      rw [va_up_self, va_up_ne _ _ h1]; exact hI2 j h2
    have kwn := c_Mo_wordsOf (l := l) (D := D) (ca := ca) (n := n) S3 hb3 hn
    have k21 : X 21 [(0, .ref (rd 0)), (1, .int (nI n))] [] m3 0 0 := by
      refine jm_run hX [(35, [0, 1, 2, 4])] 30 ?_
      refine And.intro (o0 S3) (And.intro (Nat.le_of_ble_eq_true rfl) (And.intro (Nat.le_of_ble_eq_true rfl) ⟨0, 0, _, Nat.le_refl _, Nat.le_refl _, kwn, fun v m' hq => ?_⟩))
      obtain ⟨ee, wn, hwn, rfl, hvn, -⟩ := hq
      have ee := ee.symm
      subst ee
      rw [va_up_ne _ _ hn2] at hvn
      have hz : V n / 2 ^ (wn * 28) = 0 := Nat.div_eq_of_lt (by rw [Nat.mul_comm, ← bB_p]; exact hvn)
      have kk := loop (w1 + 1) (by omega) (by
        rw [Nat.pow_succ]
        exact Nat.mul_le_mul (Nat.le_of_lt hv1) (by decide)) (wn * 28) m3 (by omega) hF3 hI3 h283 (by rw [hz, Nat.zero_div, h293]; rfl) (by rw [hz, Nat.zero_mod]; exact hb3)
      rw [hz, Nat.zero_div, ← pk_mul, ← nI_m1] at kk
      exact kk
    exact k21
  refine jm_run hX [(5, [0, 1])] 10 ?_
  refine And.intro (o0 S0) (And.intro (Or.inl rfl) ?_)
  rw [← hm1] at k5
  exact k5
end RB4
