def prm (i : Nat) : Nat := [2147483647, 2147483629, 2147483587, 2147483579, 2147483563, 2147483549, 2147483543, 2147483497].getD i 2147483647
theorem prm_b : ∀ i, i < 8 → 2147483000 < prm i ∧ prm i < 2 ^ 31 := by decide
theorem prm_iv : ∀ i, i < 8 → ∀ k, k < 9 → ivz (k + 1) (prm i) * (k + 1) % prm i = 1 := by decide +kernel
theorem prm_pv : ∀ i, i < 8 → ∀ j, j < i → prm j * ivz (prm j % prm i) (prm i) % prm i = 1 := by decide +kernel
theorem prm_P : 2 ^ 240 < ga_P prm 8 := by decide
theorem prm_P2 : ga_P prm 8 < bB ^ 24 := by decide
/-- the turned matrices are those of these numbers -/
def CCH (m : jm_M) (rd Wv Tb : Nat → Nat) : Prop := ∃ (ov : Nat → Nat) (T : Nat → Nat → Nat), lrow (m.2.2.2.1 (rd 24)) ov 8 ∧ (∀ q, q < 8 → ∀ t, t < 81 → m.2.2.2.1 (rd 23) (81 * q + t) = lN (T q t)) ∧ ∀ q, q < 8 → trn Wv Tb (prm q) (ov q) (T q)
section RB9
variable {l : Launch} {D : va_G} {ca : Nat → ClassId}
theorem c_Mo_turn {m0 : jm_M} {rd Wv Tb : Nat → Nat} (S0 : MST m0 rd) (hP : lrow (m0.2.2.2.1 (rd 16)) prm 8) (hW : lrow (m0.2.2.2.1 (rd 17)) Wv 9) (hT : lrow (m0.2.2.2.1 (rd 18)) Tb 81) (hWp : ∀ i, i < 9 → Wv i < 2 ^ 30) (hTp : ∀ t, t < 81 → Tb t < 2 ^ 30) : jm_C l D ca n_Mo_turn [.ref (rd 0)] m0 0 0 (fun v m' => v = none ∧ FM rd pT m0 m' ∧ CCH m' rd Wv Tb) := by
  refine jm_C_of (cd := cd_Mo_turn) (ini := false) (by decide +kernel) ok_Mo_turn (fun h => by cases h) (Nat.le_of_ble_eq_true rfl) ?_
  intro X hX
  have o0 : ∀ {m : jm_M}, MST m rd → jm_ok m (rd 0) 6 := fun S => S.ok (Or.inl (by decide))
  have k16 : mkin 16 := Or.inr (Or.inl (by decide))
  have loop : ∀ (e q : Nat) (m : jm_M) (ov : Nat → Nat) (T : Nat → Nat → Nat), q + e = 8 → FM rd pT m0 m → lrow (m.2.2.2.1 (rd 24)) ov q → (∀ q', q' < q → ∀ t, t < 81 → m.2.2.2.1 (rd 23) (81 * q' + t) = lN (T q' t)) → (∀ q', q' < q → trn Wv Tb (prm q') (ov q') (T q')) → X 2 [(0, .ref (rd 0)), (1, .int (nI q))] [] m 0 0 := by
    intro e
    induction e with
    | zero =>
      intro q m ov T hq hF h1 h2 h3
      have hq2 : q = 8 := by omega
      subst hq2
      refine jm_run hX [] 20 ?_
      refine And.intro (fun _ => ?_) (fun g => absurd (nI_le (Nat.le_refl 8) (by decide)) (show ¬ nI 8 ≤ nI 8 from g))
      exact ⟨Nat.le_refl _, Nat.le_refl _, trivial, rfl, hF, ov, T, h1, h2, h3⟩
    | succ e ih =>
      intro q m ov T hq hF h1 h2 h3
      have S := hF.S S0
      have hb := prm_b q (by omega)
      have at' : ∀ k, 16 ≤ k → k ≤ 18 → m.2.2.2.1 (rd k) = m0.2.2.2.1 (rd k) := fun k a b => (hF.at S0 (k := k) (Or.inr (Or.inl ⟨a, by omega⟩)) (fun w => by have := w.1; omega)).2
      have key := c_Mo_turnBy (l := l) (D := D) (ca := ca) (q := q) (p := prm q) S (by rw [at' 17 (by decide) (by decide)]; exact hW) (by rw [at' 18 (by decide) (by decide)]; exact hT) (fun i hi => by have := hWp i hi; omega) (fun t ht => by have := hTp t ht; omega) (by omega) hb.2 (by omega) (fun k k1 k9 => by
        have := prm_iv q (by omega) (k - 1) (by omega)
        rw [show k - 1 + 1 = k by omega] at this
        exact this)
      have ev : m.2.2.2.1 (rd 16) (nI q).toNatClampNeg = lN (prm q) := by rw [nI_c (by omega), at' 16 (by decide) (by decide)]; exact hP q (by omega)
      refine jm_run hX [(2, [0, 1])] 20 ?_
      refine And.intro (fun g => absurd (show nI 8 ≤ nI q from g) (nI_ge (by omega) (by omega))) (fun _ => ?_)
      refine And.intro (o0 S) ⟨some (rd 16), S.2.2 16 k16 (by decide), And.intro (S.ok k16) (And.intro (vin_of (S.len k16) (show q < 8 by omega) (by decide)) ?_)⟩
      rw [← ev] at key
      refine And.intro (o0 S) (And.intro (Nat.le_of_ble_eq_true rfl) (And.intro (Nat.le_of_ble_eq_true rfl) ⟨0, 0, _, Nat.le_refl _, Nat.le_refl _, key, fun v m1 hq => ?_⟩))
      obtain ⟨rfl, hF1, ov1, T1, h4, h5, h6⟩ := hq
      have kk := ih (q + 1) m1 (va_up ov q ov1) (va_up T q T1) (by omega) (hF.tr hF1) (fun i hi => by
        rw [h5]
        by_cases w : i = q
        · subst w; rw [va_up_self, va_up_self]
        · rw [va_up_ne _ _ w, va_up_ne _ _ w]; exact h1 i (by omega)) (fun q' hq' t ht => by
        rw [h6]
        unfold lset
        by_cases w : q' = q
        · subst w
          rw [if_pos (by omega), va_up_self, show 81 * q' + t - 81 * q' = t by omega]
        · rw [if_neg (by omega), va_up_ne _ _ w]; exact h2 q' (by omega) t ht) (fun q' hq' => by
        by_cases w : q' = q
        · subst w; rw [va_up_self, va_up_self]; exact h4
        · rw [va_up_ne _ _ w, va_up_ne _ _ w]; exact h3 q' (by omega))
      rw [← nI_1] at kk
      exact kk
  refine jm_run hX [(2, [0, 1])] 10 ?_
  exact loop 8 0 m0 (fun _ => 0) (fun _ _ => 0) (by omega) FM.rf (fun i hi => absurd hi (by omega)) (fun i hi => absurd hi (by omega)) (fun i hi => absurd hi (by omega))
abbrev pG (k : Nat) : Prop := k = 25 ∨ k = 27
theorem c_Mo_gather {m0 : jm_M} {rd V r : Nat → Nat} {n Xv : Nat} (S0 : MST m0 rd) (hP : lrow (m0.2.2.2.1 (rd 16)) prm 8) (hr : lrow (m0.2.2.2.1 (rd 26)) r 8) (hg : bgv (m0.2.2.2.1 (rd 25)) V) (hn : n < 6) (hrp : ∀ i, i < 8 → r i < prm i) (hrc : ∀ i, i < 8 → (prm i : Int) ∣ (r i : Int) - (Xv : Int)) (hX9 : Xv < ga_P prm 8) : jm_C l D ca n_Mo_gather [.ref (rd 0), .int (nI n)] m0 0 0 (fun v m' => v = none ∧ FM rd pG m0 m' ∧ bgv (m'.2.2.2.1 (rd 25)) (va_up V n Xv)) := by
  refine jm_C_of (cd := cd_Mo_gather) (ini := false) (by decide +kernel) ok_Mo_gather (fun h => by cases h) (Nat.le_of_ble_eq_true rfl) ?_
  intro X hX
  have o0 : ∀ {m : jm_M}, MST m rd → jm_ok m (rd 0) 6 := fun S => S.ok (Or.inl (by decide))
  have k16 : mkin 16 := Or.inr (Or.inl (by decide))
  have k25 : mkin 25 := Or.inr (Or.inl (by decide))
  have k26 : mkin 26 := Or.inr (Or.inl (by decide))
  have k27 : mkin 27 := Or.inr (Or.inl (by decide))
  have hXb : Xv < bB ^ 24 := Nat.lt_trans hX9 prm_P2
  have ga_le : ∀ i, ga_d prm i Xv ≤ Xv := fun i => by rw [ga_eq]; exact Nat.div_le_self _ _
  -- the second loop
  have loop2 : ∀ (t : Nat) (m : jm_M), t ≤ 8 → FM rd pG m0 m → m.2.2.2.1 (rd 27) = lfil (m0.2.2.2.1 (rd 27)) (fun i => ga_d prm i Xv % prm i) 8 → bgv (m.2.2.2.1 (rd 25)) (va_up V n (ga_d prm t Xv)) → X 97 [(0, .ref (rd 0)), (1, .int (nI n)), (2, .int (nI t + (-1)))] [] m 0 0 := by
    intro t
    induction t with
    | zero =>
      intro m _ hF _ hb
      refine jm_run hX [] 20 ?_
      refine And.intro (fun _ => ?_) (fun g => absurd (show (nI 0 + (-1) : Int32) < 0 by decide) g)
      exact ⟨Nat.le_refl _, Nat.le_refl _, trivial, rfl, hF, hb⟩
    | succ t ih =>
      intro m ht hF hd hb
      have S := hF.S S0
      have e16 : m.2.2.2.1 (rd 16) = m0.2.2.2.1 (rd 16) := (hF.at S0 k16 (by decide)).2
      rw [nI_prd t]
      have hbp := prm_b t (by omega)
      have hS := ga_S prm Xv t
      have hle := ga_le t
      -- after the factor is on the stack
      have k119 : ∀ f, ga_d prm (t + 1) Xv * f = ga_d prm (t + 1) Xv * prm t → f ≤ 2 ^ 31 → X 119 [(0, .ref (rd 0)), (1, .int (nI n)), (2, .int (nI t))] [.long (lN f), .int (nI n), .ref (rd 0)] m 0 0 := by
        intro f hf hf31
        have kgr := c_Mo_grow (l := l) (D := D) (ca := ca) (n := n) (b := f) (c := 0) S hb hn hf31 (by decide)
        rw [va_up_self, Nat.add_zero, hf] at kgr
        refine jm_run hX [(123, [0, 1, 2])] 20 ?_
        refine And.intro (o0 S) (And.intro (Nat.le_of_ble_eq_true rfl) (And.intro (Nat.le_of_ble_eq_true rfl) ⟨0, 0, _, Nat.le_refl _, Nat.le_refl _, kgr, fun v m1 hq => ?_⟩))
        obtain ⟨rfl, em1⟩ := hq
        have hF1 : FM rd pG m0 m1 := by rw [em1]; exact hF.tr (FM.uJA k25 (Or.inl rfl))
        have S1 := hF1.S S0
        have hb1 : bgv (m1.2.2.2.1 (rd 25)) (va_up V n (ga_d prm (t + 1) Xv * prm t)) := by
          have := hb.up (rd := rd) (n := n) (X := ga_d prm (t + 1) Xv * prm t) (by omega)
          rw [vuu] at this
          rw [em1]; exact this
        have hd1 : m1.2.2.2.1 (rd 27) = lfil (m0.2.2.2.1 (rd 27)) (fun i => ga_d prm i Xv % prm i) 8 := by
          rw [em1, ← hd]
          exact va_up_ne _ _ (S0.ne k27 k25 (by decide))
        clear em1
        have hmod : ga_d prm t Xv % prm t < prm t := Nat.mod_lt _ (by omega)
        have kad := c_Mo_add (l := l) (D := D) (ca := ca) (n := n) (c := ga_d prm t Xv % prm t) S1 hb1 hn (by omega)
        rw [va_up_self, hS] at kad
        have ev : m1.2.2.2.1 (rd 27) (nI t).toNatClampNeg = lN (ga_d prm t Xv % prm t) := by
          rw [nI_c (by omega), hd1]; exact if_pos (by omega)
        rw [← ev] at kad
        have k123 : X 123 [(0, .ref (rd 0)), (1, .int (nI n)), (2, .int (nI t))] [] m1 0 0 := by
          refine jm_run hX [(97, [0, 1, 2])] 20 ?_
          refine And.intro (o0 S1) ⟨some (rd 27), S1.2.2 27 k27 (by decide), And.intro (S1.ok k27) (And.intro (vin_of (S1.len k27) (show t < 8 by omega) (by decide)) ?_)⟩
          refine And.intro (o0 S1) (And.intro (Nat.le_of_ble_eq_true rfl) (And.intro (Nat.le_of_ble_eq_true rfl) ⟨0, 0, _, Nat.le_refl _, Nat.le_refl _, kad, fun v m2 hq => ?_⟩))
          obtain ⟨rfl, em2⟩ := hq
          have hF2 : FM rd pG m0 m2 := by rw [em2]; exact hF1.tr (FM.uJA k25 (Or.inl rfl))
          have hb2 : bgv (m2.2.2.2.1 (rd 25)) (va_up V n (ga_d prm t Xv)) := by
            have := hb1.up (rd := rd) (n := n) (X := ga_d prm t Xv) (by omega)
            rw [vuu] at this
            rw [em2]; exact this
          have hd2 : m2.2.2.2.1 (rd 27) = lfil (m0.2.2.2.1 (rd 27)) (fun i => ga_d prm i Xv % prm i) 8 := by
            rw [em2, ← hd1]
            exact va_up_ne _ _ (S0.ne k27 k25 (by decide))
          exact ih m2 (by omega) hF2 hd2 hb2
        exact k123
      refine jm_run hX [(119, [0, 1, 2])] 30 ?_
      refine And.intro (fun g => absurd (show nI t < 0 from g) (nI_pos (by omega))) (fun _ => ?_)
      refine And.intro (fun g => ?_) (fun g => ?_)
      · have g : nI t = nI 7 := g
        rw [nI_eq (by omega) (by decide)] at g
        have h0 : ga_d prm (t + 1) Xv = 0 := by rw [g]; exact ga_0 prm hX9
        exact k119 1 (by rw [h0, Nat.zero_mul, Nat.zero_mul]) (by decide)
      · have ev : m.2.2.2.1 (rd 16) (nI t).toNatClampNeg = lN (prm t) := by rw [nI_c (by omega), e16]; exact hP t (by omega)
        refine And.intro (o0 S) ⟨some (rd 16), S.2.2 16 k16 (by decide), And.intro (S.ok k16) (And.intro (vin_of (S.len k16) (show t < 8 by omega) (by decide)) ?_)⟩
        have kk := k119 (prm t) rfl (by omega)
        rw [← ev] at kk
        exact kk
  -- the digits
  have loop1 : ∀ (e i : Nat), i + e = 8 → X 2 [(0, .ref (rd 0)), (1, .int (nI n)), (2, .int (nI i))] [] (uJA m0 (rd 27) (lfil (m0.2.2.2.1 (rd 27)) (fun i => ga_d prm i Xv % prm i) i)) 0 0 := by
    intro e
    induction e with
    | zero =>
      intro i hi
      have hi2 : i = 8 := by omega
      subst hi2
      generalize hm1 : uJA m0 (rd 27) (lfil (m0.2.2.2.1 (rd 27)) (fun i => ga_d prm i Xv % prm i) 8) = m1
      have hF1 : FM rd pG m0 m1 := by rw [← hm1]; exact FM.uJA k27 (Or.inr rfl)
      have S1 := hF1.S S0
      have hg1 : bgv (m1.2.2.2.1 (rd 25)) V := by
        rw [← hm1]
        show bgv (va_up m0.2.2.2.1 (rd 27) _ (rd 25)) V
        rw [va_up_ne _ _ (S0.ne k25 k27 (by decide))]; exact hg
      have hd1 : m1.2.2.2.1 (rd 27) = lfil (m0.2.2.2.1 (rd 27)) (fun i => ga_d prm i Xv % prm i) 8 := by
        rw [← hm1]; exact va_up_self _ _ _
      have kcl := c_Mo_clear (l := l) (D := D) (ca := ca) (n := n) S1 hn
      refine jm_run hX [(97, [0, 1, 2])] 20 ?_
      refine And.intro (fun _ => ?_) (fun g => absurd (nI_le (Nat.le_refl 8) (by decide)) (show ¬ nI 8 ≤ nI 8 from g))
      refine And.intro (o0 S1) (And.intro (Nat.le_of_ble_eq_true rfl) (And.intro (Nat.le_of_ble_eq_true rfl) ⟨0, 0, _, Nat.le_refl _, Nat.le_refl _, kcl, fun v m2 hq => ?_⟩))
      obtain ⟨rfl, em2⟩ := hq
      have hF2 : FM rd pG m0 m2 := by rw [em2]; exact hF1.tr (FM.uJA k25 (Or.inl rfl))
      refine loop2 8 m2 (Nat.le_refl _) hF2 ?_ ?_
      · rw [em2, ← hd1]
        exact va_up_ne _ _ (S0.ne k27 k25 (by decide))
      · rw [ga_0 prm hX9, em2]
        exact hg1.up (bp 24)
    | succ e ih =>
      intro i hi
      have hbi := prm_b i (by omega)
      generalize hmm : uJA m0 (rd 27) (lfil (m0.2.2.2.1 (rd 27)) (fun i => ga_d prm i Xv % prm i) i) = m
      have hF : FM rd pG m0 m := by rw [← hmm]; exact FM.uJA k27 (Or.inr rfl)
      have S := hF.S S0
      have e16 : m.2.2.2.1 (rd 16) = m0.2.2.2.1 (rd 16) := (hF.at S0 k16 (by decide)).2
      have e26 : m.2.2.2.1 (rd 26) = m0.2.2.2.1 (rd 26) := (hF.at S0 k26 (by decide)).2
      have e27 : m.2.2.2.1 (rd 27) = lfil (m0.2.2.2.1 (rd 27)) (fun i => ga_d prm i Xv % prm i) i := by rw [← hmm]; exact va_up_self _ _ _
      have hnp : ¬ lN (prm i) = lN 0 := by rw [pk_lEQ (by omega) (by decide)]; omega
      have ev16 : ∀ j, j < 8 → m.2.2.2.1 (rd 16) (nI j).toNatClampNeg = lN (prm j) := fun j hj => by rw [nI_c (by omega), e16]; exact hP j hj
      have inner : ∀ (f j v : Nat), j + f = i → v < prm i → (prm i : Int) ∣ (v : Int) - (ga_d prm j Xv : Int) → X 18 [(0, .ref (rd 0)), (1, .int (nI n)), (2, .int (nI i)), (3, .long (lN v)), (5, .int (nI j))] [] m 0 0 := by
        intro f
        induction f with
        | zero =>
          intro j v hj hv hvc
          have hj2 : j = i := by omega
          subst hj2
          have hvd : v = ga_d prm j Xv % prm j := ga_res hv hvc
          refine jm_run hX [(2, [0, 1, 2])] 30 ?_
          refine And.intro (fun _ => ?_) (fun g => absurd (nI_le (Nat.le_refl j) (by omega)) (show ¬ nI j ≤ nI j from g))
          refine And.intro (o0 S) ⟨some (rd 27), S.2.2 27 k27 (by decide), And.intro (S.ok k27) (And.intro (vin_of (S.len k27) (show j < 8 by omega) (by decide)) ?_)⟩
          have kk := ih (j + 1) (by omega)
          rw [← lfil_s, ← uJ_uJA, hmm, ← hvd, ← nI_1] at kk
          have e2 : (nI j).toNatClampNeg = j := nI_c (by omega)
          rw [← e2] at kk
          rw [e2] at kk
          have kk2 : X 2 [(0, .ref (rd 0)), (1, .int (nI n)), (2, .int (nI j + 1))] [] (uJ m (rd 27) (nI j).toNatClampNeg (lN v)) 0 0 := by
            rw [e2]; exact kk
          exact kk2
        | succ f ihf =>
          intro j v hj hv hvc
          have hbj := prm_b j (by omega)
          have hdj : ga_d prm j Xv % prm j < prm j := Nat.mod_lt _ (by omega)
          have ev27 : m.2.2.2.1 (rd 27) (nI j).toNatClampNeg = lN (ga_d prm j Xv % prm j) := by rw [nI_c (by omega), e27]; exact if_pos (by omega)
          obtain ⟨w, w1, w2, w3⟩ := rem_sub (a := v) (b := ga_d prm j Xv % prm j) (p := prm i) (by omega) (by omega) (by omega) hbi.2
          have kin := c_Mo_inverse (l := l) (D := D) (ca := ca) (m := m) (v := prm j % prm i) (p := prm i) (Nat.mod_lt _ (by omega)) (by omega) hbi.2
          have er : lN (prm j) - lN (prm j) / lN (prm i) * lN (prm i) = lN (prm j % prm i) := pk_lRem (by omega) (by omega) (by omega)
          have hiz : ivz (prm j % prm i) (prm i) < prm i := rz_lt (by omega) _ _ _ _ (by omega)
          have hprod : w * ivz (prm j % prm i) (prm i) < 2 ^ 62 := Nat.lt_of_lt_of_le (Nat.mul_lt_mul'' (show w < 2 ^ 31 by omega) (show ivz (prm j % prm i) (prm i) < 2 ^ 31 by omega)) (by decide)
          have em : lN w * lN (ivz (prm j % prm i) (prm i)) - lN w * lN (ivz (prm j % prm i) (prm i)) / lN (prm i) * lN (prm i) = lN (w * ivz (prm j % prm i) (prm i) % prm i) := by
            rw [lN_mul]; exact pk_lRem (by omega) (by omega) (by omega)
          have hnew : (prm i : Int) ∣ ((w * ivz (prm j % prm i) (prm i) % prm i : Nat) : Int) - (ga_d prm (j + 1) Xv : Int) := by
            refine ga_step (iv := (ivz (prm j % prm i) (prm i) : Int)) hvc ?_ ?_
            · have h1 := prm_pv i (by omega) j (by omega)
              have h2 := nmod_dv (prm j * ivz (prm j % prm i) (prm i)) (prm i)
              rw [h1, Int.natCast_mul] at h2
              obtain ⟨x, hx⟩ := h2
              exact ⟨-x, by rw [Int.mul_neg, ← hx]; omega⟩
            · have h2 := nmod_dv (w * ivz (prm j % prm i) (prm i)) (prm i)
              rw [Int.natCast_mul] at h2
              refine dv_tr h2 ?_
              rw [← Int.sub_mul, Int.mul_comm]
              exact dv_mul w3 _
          rw [← ev16 i (by omega), ← ev27] at w2
          rw [← er, ← ev16 j (by omega), ← ev16 i (by omega)] at kin
          have hnp2 : ¬ m.2.2.2.1 (rd 16) (nI i).toNatClampNeg = lN 0 := by rw [ev16 i (by omega)]; exact hnp
          refine jm_run hX [(18, [0, 1, 2, 3, 5])] 70 ?_
          refine And.intro (fun g => absurd (show nI i ≤ nI j from g) (nI_ge (by omega) (by omega))) (fun _ => ?_)
          refine And.intro (o0 S) ⟨some (rd 16), S.2.2 16 k16 (by decide), And.intro (S.ok k16) (And.intro (vin_of (S.len k16) (show i < 8 by omega) (by decide)) ?_)⟩
          refine And.intro (o0 S) ⟨some (rd 27), S.2.2 27 k27 (by decide), And.intro (S.ok k27) (And.intro (vin_of (S.len k27) (show j < 8 by omega) (by decide)) ?_)⟩
          refine And.intro hnp2 (And.intro hnp2 ?_)
          refine And.intro (o0 S) ⟨some (rd 16), S.2.2 16 k16 (by decide), And.intro (S.ok k16) (And.intro (vin_of (S.len k16) (show j < 8 by omega) (by decide)) ?_)⟩
          refine And.intro hnp2 ?_
          refine ⟨Nat.le_of_ble_eq_true rfl, Nat.le_of_ble_eq_true rfl, 0, 0, _, Nat.le_refl _, Nat.le_refl _, kin, fun v' m' hq => ?_⟩
          obtain ⟨ee, rfl⟩ := hq
          have ee := ee.symm
          subst ee
          refine And.intro hnp2 ?_
          have kk := ihf (j + 1) (w * ivz (prm j % prm i) (prm i) % prm i) (by omega) (Nat.mod_lt _ (by omega)) hnew
          rw [← em, ← ev16 i (by omega), ← w2, ← nI_1] at kk
          exact kk
      have ev26 : m.2.2.2.1 (rd 26) (nI i).toNatClampNeg = lN (r i) := by rw [nI_c (by omega), e26]; exact hr i (by omega)
      refine jm_run hX [(18, [0, 1, 2, 3, 5])] 30 ?_
      refine And.intro (fun g => absurd (show nI 8 ≤ nI i from g) (nI_ge (by omega) (by omega))) (fun _ => ?_)
      refine And.intro (o0 S) ⟨some (rd 26), S.2.2 26 k26 (by decide), And.intro (S.ok k26) (And.intro (vin_of (S.len k26) (show i < 8 by omega) (by decide)) ?_)⟩
      have kk := inner i 0 (r i) (by omega) (hrp i (by omega)) (hrc i (by omega))
      rw [← ev26] at kk
      exact kk
  refine jm_run hX [(2, [0, 1, 2])] 10 ?_
  have kk := loop1 8 0 (by omega)
  rw [lfil_0, uJA_id] at kk
  exact kk
end RB9
