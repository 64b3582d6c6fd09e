abbrev pW (k : Nat) : Prop := k = 25 ∨ k = 26 ∨ k = 27
theorem pG_W {k : Nat} (h : pG k) : pW k := by rcases h with h | h <;> (rw [h]; decide)
/-- a number by the residues of what it is -/
def amtB (b : Nat → Nat → Int) (w f : Nat → Nat) : Int := ds_S (fun j => (w j : Int) * ds_S (fun i => ds_C (fl_b b 9) 9 j (9 + i) * (f i : Int)) 9) 9
def wthB (b : Nat → Nat → Int) (w : Nat → Nat) (nd : Nat) : Int := ds_S (fun j => (w j : Int) * ds_C (fl_b b 9) 9 j (9 + nd)) 9
section RB10
variable {l : Launch} {D : va_G} {ca : Nat → ClassId}
theorem c_Mo_clearWeights {m : jm_M} {rd : Nat → Nat} (S : MST m rd) : jm_C l D ca n_Mo_clearWeights [.ref (rd 0)] m 0 0 (fun v m' => v = none ∧ m' = uJA m (rd 30) (lfil (m.2.2.2.1 (rd 30)) (fun _ => 0) 9)) := by
  refine jm_C_of (cd := cd_Mo_clearWeights) (ini := false) (by decide +kernel) ok_Mo_clearWeights (fun h => by cases h) (Nat.le_of_ble_eq_true rfl) ?_
  intro X hX
  have k30 : mkin 30 := Or.inr (Or.inr (Or.inl rfl))
  have o0 : jm_ok m (rd 0) 6 := S.ok (Or.inl (by decide))
  have loop : ∀ (e i : Nat), i + e = 9 → X 2 [(0, .ref (rd 0)), (1, .int (nI i))] [] (uJA m (rd 30) (lfil (m.2.2.2.1 (rd 30)) (fun _ => 0) i)) 0 0 := by
    intro e
    induction e with
    | zero =>
      intro i hi
      have hi2 : i = 9 := by omega
      subst hi2
      refine jm_run hX [] 20 ?_
      refine And.intro (fun _ => ?_) (fun g => absurd (nI_le (Nat.le_refl 9) (by decide)) (show ¬ nI 9 ≤ nI 9 from g))
      exact ⟨Nat.le_refl _, Nat.le_refl _, trivial, rfl, rfl⟩
    | succ e ih =>
      intro i hi
      refine jm_run hX [(2, [0, 1])] 20 ?_
      refine And.intro (fun g => absurd (show nI 9 ≤ nI i from g) (nI_ge (by omega) (by omega))) (fun _ => ?_)
      refine And.intro o0 ⟨some (rd 30), S.2.2 30 k30 (by decide), And.intro (S.ok k30) (And.intro (vin_of (S.len k30) (show i < 9 by omega) (by decide)) ?_)⟩
      have kk := ih (i + 1) (by omega)
      rw [← lfil_s, ← uJ_uJA, ← nI_1] at kk
      have e2 : (nI i).toNatClampNeg = i := nI_c (by omega)
      have kk2 : X 2 [(0, .ref (rd 0)), (1, .int (nI i + 1))] [] (uJ (uJA m (rd 30) (lfil (m.2.2.2.1 (rd 30)) (fun _ => 0) i)) (rd 30) (nI i).toNatClampNeg 0) 0 0 := by
        rw [e2]; exact kk
      exact kk2
  refine jm_run hX [(2, [0, 1])] 10 ?_
  have kk := loop 9 0 (by omega)
  rw [lfil_0, uJA_id] at kk
  exact kk
theorem c_Mo_gatherOver {m0 : jm_M} {rd V Wv Tb : Nat → Nat} {n Xv : Nat} (S0 : MST m0 rd) (hP : lrow (m0.2.2.2.1 (rd 16)) prm 8) (hC : CCH m0 rd Wv Tb) (hg : bgv (m0.2.2.2.1 (rd 25)) V) (hn : n < 6) (hX : (Xv : Int) = ds_d (fl_b (btz Wv Tb) 9) 9) (hX9 : Xv < ga_P prm 8) : jm_C l D ca n_Mo_gatherOver [.ref (rd 0), .int (nI n)] m0 0 0 (fun v m' => v = none ∧ FM rd pW m0 m' ∧ bgv (m'.2.2.2.1 (rd 25)) (va_up V n Xv)) := by
  refine jm_C_of (cd := cd_Mo_gatherOver) (ini := false) (by decide +kernel) ok_Mo_gatherOver (fun h => by cases h) (Nat.le_of_ble_eq_true rfl) ?_
  intro X hX'
  obtain ⟨ov, T, h1, h2, h3⟩ := hC
  have k24 : mkin 24 := Or.inr (Or.inl (by decide))
  have k26 : mkin 26 := Or.inr (Or.inl (by decide))
  have k25 : mkin 25 := Or.inr (Or.inl (by decide))
  have k16 : mkin 16 := Or.inr (Or.inl (by decide))
  have o0 : ∀ {m : jm_M}, MST m rd → jm_ok m (rd 0) 6 := fun S => S.ok (Or.inl (by decide))
  have loop : ∀ (e i : Nat), i + e = 8 → X 2 [(0, .ref (rd 0)), (1, .int (nI n)), (2, .int (nI i))] [] (uJA m0 (rd 26) (lfil (m0.2.2.2.1 (rd 26)) ov i)) 0 0 := by
    intro e
    induction e with
    | zero =>
      intro i hi
      have hi2 : i = 8 := by omega
      subst hi2
      generalize hm1 : uJA m0 (rd 26) (lfil (m0.2.2.2.1 (rd 26)) ov 8) = m1
      have hF1 : FM rd pW m0 m1 := by rw [← hm1]; exact FM.uJA k26 (Or.inr (Or.inl rfl))
      have S1 := hF1.S S0
      have kga := c_Mo_gather (l := l) (D := D) (ca := ca) (V := V) (r := ov) (n := n) (Xv := Xv) S1 (by rw [← hm1]; show lrow (va_up m0.2.2.2.1 (rd 26) _ (rd 16)) _ _; rw [va_up_ne _ _ (S0.ne k16 k26 (by decide))]; exact hP) (by rw [← hm1]; show lrow (va_up m0.2.2.2.1 (rd 26) _ (rd 26)) _ _; rw [va_up_self]; exact lfil_row) (by rw [← hm1]; show bgv (va_up m0.2.2.2.1 (rd 26) _ (rd 25)) _; rw [va_up_ne _ _ (S0.ne k25 k26 (by decide))]; exact hg) hn (fun i hi => (h3 i hi).1) (fun i hi => by rw [hX]; exact (h3 i hi).2.2.1) hX9
      refine jm_run hX' [] 20 ?_
      refine And.intro (fun _ => ?_) (fun g => absurd (nI_le (Nat.le_refl 8) (by decide)) (show ¬ nI 8 ≤ nI 8 from g))
      refine And.intro (o0 S1) (And.intro (Nat.le_of_ble_eq_true rfl) (And.intro (Nat.le_of_ble_eq_true rfl) ⟨0, 0, _, Nat.le_refl _, Nat.le_refl _, kga, fun v m2 hq => ?_⟩))
      obtain ⟨rfl, hF2, hb2⟩ := hq
      exact ⟨Nat.le_refl _, Nat.le_refl _, trivial, rfl, hF1.tr (hF2.mo (fun k w => pG_W w)), hb2⟩
    | succ e ih =>
      intro i hi
      have hin : ∀ k, k = 24 ∨ k = 26 → vp_in (nI i) (m0.2.1 (rd k)).2 := fun k hk => by
        rcases hk with rfl | rfl
        · exact vin_of (S0.len k24) (show i < 8 by omega) (by decide)
        · exact vin_of (S0.len k26) (show i < 8 by omega) (by decide)
      have ev : va_up m0.2.2.2.1 (rd 26) (lfil (m0.2.2.2.1 (rd 26)) ov i) (rd 24) (nI i).toNatClampNeg = lN (ov i) := by
        rw [nI_c (by omega), va_up_ne _ _ (S0.ne k24 k26 (by decide))]; exact h1 i (by omega)
      refine jm_run hX' [(2, [0, 1, 2])] 20 ?_
      refine And.intro (fun g => absurd (show nI 8 ≤ nI i from g) (nI_ge (by omega) (by omega))) (fun _ => ?_)
      refine And.intro (o0 S0) ⟨some (rd 26), S0.2.2 26 k26 (by decide), And.intro (o0 S0) ⟨some (rd 24), S0.2.2 24 k24 (by decide), And.intro (S0.ok k24) (And.intro (hin 24 (Or.inl rfl)) (And.intro (S0.ok k26) (And.intro (hin 26 (Or.inr rfl)) ?_)))⟩⟩
      have kk := ih (i + 1) (by omega)
      rw [← lfil_s, ← uJ_uJA, ← nI_1, ← ev] at kk
      have e2 : (nI i).toNatClampNeg = i := nI_c (by omega)
      have kk2 : X 2 [(0, .ref (rd 0)), (1, .int (nI n)), (2, .int (nI i + 1))] [] (uJ (uJA m0 (rd 26) (lfil (m0.2.2.2.1 (rd 26)) ov i)) (rd 26) (nI i).toNatClampNeg (va_up m0.2.2.2.1 (rd 26) (lfil (m0.2.2.2.1 (rd 26)) ov i) (rd 24) (nI i).toNatClampNeg)) 0 0 := by
        rw [e2] at kk ⊢; exact kk
      exact kk2
  refine jm_run hX' [(2, [0, 1, 2])] 10 ?_
  have kk := loop 8 0 (by omega)
  rw [lfil_0, uJA_id] at kk
  exact kk
theorem ixT (q j i : Nat) : (81 : Int32) * nI q + (9 : Int32) * nI j + nI i = nI (81 * q + (9 * j + i)) := by
  have e1 : (81 : Int32) * nI q = nI (81 * q) := pk_mul 81 q
  have e2 : (9 : Int32) * nI j = nI (9 * j) := pk_mul 9 j
  rw [e1, e2, nI_add, nI_add, Nat.add_assoc]
/-- sums modulo p -/
def smp (p : Nat) (f : Nat → Nat) : Nat → Nat
  | 0 => 0
  | k + 1 => (smp p f k + f k) % p
theorem smp_lt {p : Nat} {f : Nat → Nat} (hp : 0 < p) : ∀ k, smp p f k < p
  | 0 => hp
  | _ + 1 => Nat.mod_lt _ hp
theorem smp_cg (p : Nat) (f : Nat → Nat) : ∀ k, (p : Int) ∣ (smp p f k : Int) - ds_S (fun i => (f i : Int)) k
  | 0 => by show (p : Int) ∣ ((0 : Nat) : Int) - 0; exact ⟨0, by omega⟩
  | k + 1 => by
    have ih := smp_cg p f k
    have h := nmod_dv (smp p f k + f k) p
    show (p : Int) ∣ (((smp p f k + f k) % p : Nat) : Int) - (ds_S (fun i => (f i : Int)) k + (f k : Int))
    rw [Int.natCast_add] at h
    have := Int.dvd_add h ih
    generalize (((smp p f k + f k) % p : Nat) : Int) = a at *
    generalize (smp p f k : Int) = bb at *
    generalize (f k : Int) = cc at *
    generalize ds_S (fun i => (f i : Int)) k = d at *
    rw [show a - (bb + cc) + (bb - d) = a - (d + cc) by omega] at this
    exact this
theorem c_Mo_gatherAmount {m0 : jm_M} {rd V Wv Tb wt Fd : Nat → Nat} {f n Xv : Nat} (S0 : MST m0 rd) (hP : lrow (m0.2.2.2.1 (rd 16)) prm 8) (hC : CCH m0 rd Wv Tb) (hg : bgv (m0.2.2.2.1 (rd 25)) V) (hw : lrow (m0.2.2.2.1 (rd 30)) wt 9) (hwb : ∀ j, j < 9 → wt j < 2 ^ 62) (hf : f < 2) (hfd : ∀ i, i < 9 → m0.2.2.1 (rd 10) (9 * f + i) = nI (Fd i) ∧ Fd i ≤ 1000000) (hn : n < 6) (hX : (Xv : Int) = amtB (btz Wv Tb) wt Fd) (hX9 : Xv < ga_P prm 8) : jm_C l D ca n_Mo_gatherAmount [.ref (rd 0), .int (nI f), .int (nI n)] m0 0 0 (fun v m' => v = none ∧ FM rd pW m0 m' ∧ bgv (m'.2.2.2.1 (rd 25)) (va_up V n Xv)) := by
  refine jm_C_of (cd := cd_Mo_gatherAmount) (ini := false) (by decide +kernel) ok_Mo_gatherAmount (fun h => by cases h) (Nat.le_of_ble_eq_true rfl) ?_
  intro X hX'
  obtain ⟨ov, T, h1, h2, h3⟩ := hC
  have k10 : mkin 10 := Or.inl (by decide)
  have k16 : mkin 16 := Or.inr (Or.inl (by decide))
  have k23 : mkin 23 := Or.inr (Or.inl (by decide))
  have k25 : mkin 25 := Or.inr (Or.inl (by decide))
  have k26 : mkin 26 := Or.inr (Or.inl (by decide))
  have k30 : mkin 30 := Or.inr (Or.inr (Or.inl rfl))
  have o0 : ∀ {m : jm_M}, MST m rd → jm_ok m (rd 0) 6 := fun S => S.ok (Or.inl (by decide))
  generalize hown : (fun q j => smp (prm q) (fun i => T q (9 * j + i) * Fd i)) = own
  generalize hres : (fun q => smp (prm q) (fun j => own q j 9 * (wt j % prm q)) 9) = res
  have hresp : ∀ q, q < 8 → res q < prm q := fun q hq => by rw [← hres]; exact smp_lt (by have := prm_b q hq; omega) 9
  have hresc : ∀ q, q < 8 → (prm q : Int) ∣ (res q : Int) - (Xv : Int) := fun q hq => by
    rw [hX, ← hres]
    refine dv_tr (smp_cg (prm q) (fun j => own q j 9 * (wt j % prm q)) 9) (dv_S2 fun j hj => ?_)
    have g1 : (prm q : Int) ∣ (own q j 9 : Int) - ds_S (fun i => ds_C (fl_b (btz Wv Tb) 9) 9 j (9 + i) * (Fd i : Int)) 9 := by
      rw [← hown]
      refine dv_tr (smp_cg (prm q) (fun i => T q (9 * j + i) * Fd i) 9) (dv_S2 fun i hi => ?_)
      show (prm q : Int) ∣ ((T q (9 * j + i) * Fd i : Nat) : Int) - _
      rw [Int.natCast_mul, ← Int.sub_mul, Int.mul_comm]
      exact dv_mul ((h3 q hq).2.2.2 j i hj hi) _
    have g2 := nmod_dv (wt j) (prm q)
    show (prm q : Int) ∣ ((own q j 9 * (wt j % prm q) : Nat) : Int) - _
    rw [Int.natCast_mul]
    obtain ⟨x, hx⟩ := g1
    obtain ⟨y, hy⟩ := g2
    generalize ds_S (fun i => ds_C (fl_b (btz Wv Tb) 9) 9 j (9 + i) * (Fd i : Int)) 9 = U at *
    generalize (own q j 9 : Int) = a at *
    generalize ((wt j % prm q : Nat) : Int) = bb at *
    generalize (wt j : Int) = cc at *
    generalize (prm q : Int) = P0 at *
    refine ⟨x * bb + U * y, ?_⟩
    have z1 : a = U + P0 * x := by omega
    have z2 : bb = cc + P0 * y := by omega
    rw [z1, z2]; grind
  have loop : ∀ (e q : Nat), q + e = 8 → X 2 [(0, .ref (rd 0)), (1, .int (nI f)), (2, .int (nI n)), (3, .int (nI q))] [] (uJA m0 (rd 26) (lfil (m0.2.2.2.1 (rd 26)) res q)) 0 0 := by
    intro e
    induction e with
    | zero =>
      intro i hi
      have hi2 : i = 8 := by omega
      subst hi2
      generalize hm1 : uJA m0 (rd 26) (lfil (m0.2.2.2.1 (rd 26)) res 8) = m1
      have hF1 : FM rd pW m0 m1 := by rw [← hm1]; exact FM.uJA k26 (Or.inr (Or.inl rfl))
      have S1 := hF1.S S0
      have kga := c_Mo_gather (l := l) (D := D) (ca := ca) (V := V) (r := res) (n := n) (Xv := Xv) S1 (by rw [← hm1]; show lrow (va_up m0.2.2.2.1 (rd 26) _ (rd 16)) _ _; rw [va_up_ne _ _ (S0.ne k16 k26 (by decide))]; exact hP) (by rw [← hm1]; show lrow (va_up m0.2.2.2.1 (rd 26) _ (rd 26)) _ _; rw [va_up_self]; exact lfil_row) (by rw [← hm1]; show bgv (va_up m0.2.2.2.1 (rd 26) _ (rd 25)) _; rw [va_up_ne _ _ (S0.ne k25 k26 (by decide))]; exact hg) hn hresp hresc hX9
      refine jm_run hX' [] 20 ?_
      refine And.intro (fun _ => ?_) (fun g => absurd (nI_le (Nat.le_refl 8) (by decide)) (show ¬ nI 8 ≤ nI 8 from g))
      refine And.intro (o0 S1) (And.intro (Nat.le_of_ble_eq_true rfl) (And.intro (Nat.le_of_ble_eq_true rfl) ⟨0, 0, _, Nat.le_refl _, Nat.le_refl _, kga, fun v m2 hq => ?_⟩))
      obtain ⟨rfl, hF2, hb2⟩ := hq
      exact ⟨Nat.le_refl _, Nat.le_refl _, trivial, rfl, hF1.tr (hF2.mo (fun k w => pG_W w)), hb2⟩
    | succ e ih =>
      intro q hq
      have hb := prm_b q (by omega)
      generalize hmm : uJA m0 (rd 26) (lfil (m0.2.2.2.1 (rd 26)) res q) = m
      have hF : FM rd pW m0 m := by rw [← hmm]; exact FM.uJA k26 (Or.inr (Or.inl rfl))
      have S := hF.S S0
      have jo : ∀ k, mkin k → k ≠ 26 → m.2.2.2.1 (rd k) = m0.2.2.2.1 (rd k) := fun k hk h => by rw [← hmm]; exact va_up_ne _ _ (S0.ne hk k26 h)
      have io : m.2.2.1 = m0.2.2.1 := by rw [← hmm]; rfl
      have hnp : ¬ lN (prm q) = lN 0 := by rw [pk_lEQ (by omega) (by decide)]; omega
      have ownlt : ∀ j k, own q j k < prm q := fun j k => by rw [← hown]; exact smp_lt (by omega) k
      have wlt : ∀ j, wt j % prm q < prm q := fun j => Nat.mod_lt _ (by omega)
      have mid : ∀ (f2 j : Nat), j + f2 = 9 → X 22 [(0, .ref (rd 0)), (1, .int (nI f)), (2, .int (nI n)), (3, .int (nI q)), (4, .long (lN (prm q))), (6, .long (lN (smp (prm q) (fun j => own q j 9 * (wt j % prm q)) j))), (8, .int (nI j))] [] m 0 0 := by
        intro f2
        induction f2 with
        | zero =>
          intro j hj
          have hj2 : j = 9 := by omega
          subst hj2
          have hr9 : smp (prm q) (fun j => own q j 9 * (wt j % prm q)) 9 = res q := by rw [← hres]
          rw [hr9]
          refine jm_run hX' [(2, [0, 1, 2, 3])] 20 ?_
          refine And.intro (fun _ => ?_) (fun g => absurd (nI_le (Nat.le_refl 9) (by decide)) (show ¬ nI 9 ≤ nI 9 from g))
          refine And.intro (o0 S) ⟨some (rd 26), S.2.2 26 k26 (by decide), And.intro (S.ok k26) (And.intro (vin_of (S.len k26) (show q < 8 by omega) (by decide)) ?_)⟩
          have kk := ih (q + 1) (by omega)
          rw [← lfil_s, ← uJ_uJA, hmm, ← nI_1] at kk
          have e2 : (nI q).toNatClampNeg = q := nI_c (by omega)
          have kk2 : X 2 [(0, .ref (rd 0)), (1, .int (nI f)), (2, .int (nI n)), (3, .int (nI q + 1))] [] (uJ m (rd 26) (nI q).toNatClampNeg (lN (res q))) 0 0 := by
            rw [e2]; exact kk
          exact kk2
        | succ f2 ihf =>
          intro j hj
          have inn : ∀ (f3 i : Nat), i + f3 = 9 → X 35 [(0, .ref (rd 0)), (1, .int (nI f)), (2, .int (nI n)), (3, .int (nI q)), (4, .long (lN (prm q))), (6, .long (lN (smp (prm q) (fun j => own q j 9 * (wt j % prm q)) j))), (8, .int (nI j)), (9, .long (lN (own q j i))), (11, .int (nI i))] [] m 0 0 := by
            intro f3
            induction f3 with
            | zero =>
              intro i hi
              have hi2 : i = 9 := by omega
              subst hi2
              have ev : m.2.2.2.1 (rd 30) (nI j).toNatClampNeg = lN (wt j) := by rw [nI_c (by omega), jo 30 k30 (by decide)]; exact hw j (by omega)
              have hwj := hwb j (by omega)
              have e1 : m.2.2.2.1 (rd 30) (nI j).toNatClampNeg - m.2.2.2.1 (rd 30) (nI j).toNatClampNeg / lN (prm q) * lN (prm q) = lN (wt j % prm q) := by rw [ev]; exact pk_lRem (by omega) (by omega) (by omega)
              have hs := smp_lt (f := fun j => own q j 9 * (wt j % prm q)) (show 0 < prm q by omega) j
              have h9 := ownlt j 9
              have hw9 := wlt j
              have hpr : own q j 9 * (wt j % prm q) < 2 ^ 62 := Nat.lt_of_lt_of_le (Nat.mul_lt_mul'' (show own q j 9 < 2 ^ 31 by omega) (show wt j % prm q < 2 ^ 31 by omega)) (by decide)
              have e2 : (lN (smp (prm q) (fun j => own q j 9 * (wt j % prm q)) j) + lN (own q j 9) * (m.2.2.2.1 (rd 30) (nI j).toNatClampNeg - m.2.2.2.1 (rd 30) (nI j).toNatClampNeg / lN (prm q) * lN (prm q))) - (lN (smp (prm q) (fun j => own q j 9 * (wt j % prm q)) j) + lN (own q j 9) * (m.2.2.2.1 (rd 30) (nI j).toNatClampNeg - m.2.2.2.1 (rd 30) (nI j).toNatClampNeg / lN (prm q) * lN (prm q))) / lN (prm q) * lN (prm q) = lN (smp (prm q) (fun j => own q j 9 * (wt j % prm q)) (j + 1)) := by
                rw [e1, lN_mul, lN_add, pk_lRem (by omega) (by omega) (by omega)]; rfl
              refine jm_run hX' [(22, [0, 1, 2, 3, 4, 6, 8])] 40 ?_
              refine And.intro (fun _ => ?_) (fun g => absurd (nI_le (Nat.le_refl 9) (by decide)) (show ¬ nI 9 ≤ nI 9 from g))
              refine And.intro (o0 S) ⟨some (rd 30), S.2.2 30 k30 (by decide), And.intro (S.ok k30) (And.intro (vin_of (S.len k30) (show j < 9 by omega) (by decide)) (And.intro hnp (And.intro hnp ?_)))⟩
              have kk := ihf (j + 1) (by omega)
              rw [← e2, ← nI_1] at kk
              exact kk
            | succ f3 ihg =>
              intro i hi
              have ei := ixT q j i
              have ef : (9 : Int32) * nI f + nI i = nI (9 * f + i) := ix9 f i
              obtain ⟨hfi, hfb⟩ := hfd i (by omega)
              have ev : m.2.2.2.1 (rd 23) ((81 : Int32) * nI q + (9 : Int32) * nI j + nI i).toNatClampNeg = lN (T q (9 * j + i)) := by rw [ei, nI_c (by omega), jo 23 k23 (by decide)]; exact h2 q (by omega) (9 * j + i) (by omega)
              have evf : (m.2.2.1 (rd 10) ((9 : Int32) * nI f + nI i).toNatClampNeg).toInt64 = lN (Fd i) := by rw [ef, nI_c (by omega), io, hfi]; exact nI_l (by omega)
              have hT9 := (h3 q (by omega)).2.1 (9 * j + i) (by omega)
              have h9 := ownlt j i
              have hpr : T q (9 * j + i) * Fd i < 2 ^ 62 := Nat.lt_of_le_of_lt (Nat.mul_le_mul (show T q (9 * j + i) ≤ 2 ^ 31 by omega) hfb) (by decide)
              have e2 : (lN (own q j i) + m.2.2.2.1 (rd 23) ((81 : Int32) * nI q + (9 : Int32) * nI j + nI i).toNatClampNeg * (m.2.2.1 (rd 10) ((9 : Int32) * nI f + nI i).toNatClampNeg).toInt64) - (lN (own q j i) + m.2.2.2.1 (rd 23) ((81 : Int32) * nI q + (9 : Int32) * nI j + nI i).toNatClampNeg * (m.2.2.1 (rd 10) ((9 : Int32) * nI f + nI i).toNatClampNeg).toInt64) / lN (prm q) * lN (prm q) = lN (own q j (i + 1)) := by
                rw [ev, evf, lN_mul, lN_add, pk_lRem (by omega) (by omega) (by omega), ← hown]; rfl
              refine jm_run hX' [(35, [0, 1, 2, 3, 4, 6, 8, 9, 11])] 50 ?_
              refine And.intro (fun g => absurd (show nI 9 ≤ nI i from g) (nI_ge (by omega) (by omega))) (fun _ => ?_)
              refine And.intro (o0 S) ⟨some (rd 23), S.2.2 23 k23 (by decide), And.intro (S.ok k23) (And.intro ?_ ?_)⟩
              · show vp_in ((81 : Int32) * nI q + (9 : Int32) * nI j + nI i) (m.2.1 (rd 23)).2
                rw [ei]; exact vin_of (S.len k23) (show 81 * q + (9 * j + i) < 648 by omega) (by decide)
              refine And.intro (o0 S) ⟨some (rd 10), S.2.2 10 k10 (by decide), And.intro (S.ok k10) (And.intro ?_ (And.intro hnp ?_))⟩
              · show vp_in ((9 : Int32) * nI f + nI i) (m.2.1 (rd 10)).2
                rw [ef]; exact vin_of (S.len k10) (show 9 * f + i < 18 by omega) (by decide)
              have kk := ihg (i + 1) (by omega)
              rw [← e2, ← nI_1] at kk
              exact kk
          refine jm_run hX' [(35, [0, 1, 2, 3, 4, 6, 8, 9, 11])] 20 ?_
          refine And.intro (fun g => absurd (show nI 9 ≤ nI j from g) (nI_ge (by omega) (by omega))) (fun _ => ?_)
          have kk := inn 9 0 (by omega)
          have e0 : own q j 0 = 0 := by rw [← hown]; rfl
          rw [e0] at kk
          exact kk
      have ev16 : m.2.2.2.1 (rd 16) (nI q).toNatClampNeg = lN (prm q) := by rw [nI_c (by omega), jo 16 k16 (by decide)]; exact hP q (by omega)
      refine jm_run hX' [(22, [0, 1, 2, 3, 4, 6, 8])] 20 ?_
      refine And.intro (fun g => absurd (show nI 8 ≤ nI q from g) (nI_ge (by omega) (by omega))) (fun _ => ?_)
      refine And.intro (o0 S) ⟨some (rd 16), S.2.2 16 k16 (by decide), And.intro (S.ok k16) (And.intro (vin_of (S.len k16) (show q < 8 by omega) (by decide)) ?_)⟩
      have kk := mid 9 0 (by omega)
      rw [← ev16] at kk
      have e0 : smp (prm q) (fun j => own q j 9 * (wt j % prm q)) 0 = 0 := rfl
      rw [e0] at kk
      exact kk
  refine jm_run hX' [(2, [0, 1, 2, 3])] 10 ?_
  have kk := loop 8 0 (by omega)
  rw [lfil_0, uJA_id] at kk
  exact kk
end RB10
