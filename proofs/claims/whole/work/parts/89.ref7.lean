/-- raising, as the reference does it -/
def rz (p : Nat) : Nat → Nat → Nat → Nat → Nat
  | 0, md, _, _ => md
  | f + 1, md, sq, r => if r = 0 then md else rz p f (if r % 2 = 1 then md * sq % p else md) (sq * sq % p) (r / 2)
theorem rz_lt {p : Nat} (hp : 0 < p) : ∀ (f md sq r : Nat), md < p → rz p f md sq r < p
  | 0, md, _, _, h => h
  | f + 1, md, sq, r, h => by
    unfold rz
    by_cases w : r = 0
    · rw [if_pos w]; exact h
    · rw [if_neg w]
      refine rz_lt hp f _ _ _ ?_
      by_cases w2 : r % 2 = 1
      · rw [if_pos w2]; exact Nat.mod_lt _ hp
      · rw [if_neg w2]; exact h
def ivz (k p : Nat) : Nat := rz p 32 1 k (p - 2)
/-- a difference, twice the rest -/
theorem rem_sub {a b p : Nat} (ha : a < 2 ^ 62) (hb : b < 2 ^ 62) (hp : 0 < p) (hp2 : p < 2 ^ 31) : ∃ w, w < p ∧ ((lN a - lN b) - (lN a - lN b) / lN p * lN p + lN p) - ((lN a - lN b) - (lN a - lN b) / lN p * lN p + lN p) / lN p * lN p = lN w ∧ (p : Int) ∣ (w : Int) - ((a : Int) - b) := by
  have e1 : (lN a - lN b).toInt = (a : Int) - b := lz_sub ha hb
  have ep : (lN p).toInt = (p : Int) := pk_lT (by omega)
  generalize hx : lN a - lN b = x at *
  have hlo : -2 ^ 62 < x.toInt := by omega
  have hhi : x.toInt < 2 ^ 62 := by omega
  -- the quotient and the rest
  have e2 : (x / lN p).toInt = x.toInt.tdiv p := by
    rw [Int64.toInt_div, ep]
    have h1 := Int.natAbs_tdiv_le_natAbs x.toInt (p : Int)
    exact Int.bmod_eq_of_le (by omega) (by omega)
  have hdm := Int.mul_tdiv_add_tmod x.toInt (p : Int)
  have hr1 : x.toInt.tmod p < p := Int.tmod_lt_of_pos _ (by omega)
  have hr2 : -(p : Int) < x.toInt.tmod p := by
    have := Int.tmod_lt_of_pos (-x.toInt) (show (0 : Int) < p by omega)
    rw [Int.neg_tmod] at this
    omega
  have e3 : (x / lN p * lN p).toInt = x.toInt.tdiv p * p := by
    rw [Int64.toInt_mul, e2, ep]
    rw [Int.mul_comm] at hdm
    exact Int.bmod_eq_of_le (by omega) (by omega)
  have e4 : (x - x / lN p * lN p).toInt = x.toInt.tmod p := by
    rw [Int64.toInt_sub, e3]
    rw [Int.mul_comm] at hdm
    have : x.toInt - x.toInt.tdiv p * p = x.toInt.tmod p := by omega
    rw [this]
    exact Int.bmod_eq_of_le (by omega) (by omega)
  have e5 : x - x / lN p * lN p + lN p = lN (x.toInt.tmod p + p).toNat := by
    apply Int64.toInt_inj.mp
    rw [Int64.toInt_add, e4, ep, pk_lT (by omega)]
    rw [Int.bmod_eq_of_le (by omega) (by omega)]
    omega
  refine ⟨(x.toInt.tmod p + p).toNat % p, Nat.mod_lt _ hp, ?_, ?_⟩
  · rw [e5, pk_lRem (by omega) hp (by omega)]
  · have h6 := Nat.div_add_mod (x.toInt.tmod p + p).toNat p
    have h7 : (((x.toInt.tmod p + p).toNat % p : Nat) : Int) = x.toInt.tmod p + p - (p : Int) * (((x.toInt.tmod p + p).toNat / p : Nat) : Int) := by
      have : (((p * ((x.toInt.tmod p + p).toNat / p) + (x.toInt.tmod p + p).toNat % p : Nat)) : Int) = x.toInt.tmod p + p := by rw [h6]; omega
      rw [Int.natCast_add, Int.natCast_mul] at this
      omega
    refine ⟨1 - x.toInt.tdiv p - (((x.toInt.tmod p + p).toNat / p : Nat) : Int), ?_⟩
    rw [h7, ← e1]
    have : (p : Int) * (1 - x.toInt.tdiv p - (((x.toInt.tmod p + p).toNat / p : Nat) : Int)) = p - p * x.toInt.tdiv p - p * (((x.toInt.tmod p + p).toNat / p : Nat) : Int) := by
      rw [Int.mul_sub, Int.mul_sub, Int.mul_one]
    rw [this]
    omega
section RB7
variable {l : Launch} {D : va_G} {ca : Nat → ClassId}
theorem c_Mo_raise {m : jm_M} {v b p : Nat} (hv : v < p) (hp : 1 < p) (hp2 : p < 2 ^ 31) (hb : b < 2 ^ 32) : jm_C l D ca n_Mo_raise [.long (lN v), .long (lN b), .long (lN p)] m 0 0 (fun r m' => m' = m ∧ r = some (.long (lN (rz p 32 1 v b)))) := by
  refine jm_C_of (cd := cd_Mo_raise) (ini := false) (by decide +kernel) ok_Mo_raise (fun h => by cases h) (Nat.le_of_ble_eq_true rfl) ?_
  intro X hX
  have loop : ∀ (f md sq r : Nat), r < 2 ^ f → f ≤ 32 → md < p → sq < p → rz p f md sq r = rz p 32 1 v b → X 9 [(4, .long (lN p)), (6, .long (lN md)), (8, .long (lN sq)), (10, .long (lN r))] [] m 0 0 := by
    have fin : ∀ (md sq : Nat), md = rz p 32 1 v b → X 9 [(4, .long (lN p)), (6, .long (lN md)), (8, .long (lN sq)), (10, .long (lN 0))] [] m 0 0 := by
      intro md sq he
      refine jm_run hX [] 20 ?_
      refine And.intro (fun _ => ?_) (fun g => ?_)
      · exact ⟨Nat.le_refl _, Nat.le_refl _, trivial, rfl, by rw [he]⟩
      · have g : ¬ lg_cmp (lN 0) (lN 0) ≤ 0 := g
        exact absurd (by decide : lg_cmp (lN 0) (lN 0) ≤ 0) g
    intro f
    induction f with
    | zero =>
      intro md sq r hr _ _ _ he
      rw [show r = 0 by omega]
      exact fin md sq he
    | succ f ih =>
      intro md sq r hr hf hmd hsq he
      by_cases hr0 : r = 0
      · subst hr0
        unfold rz at he
        rw [if_pos rfl] at he
        exact fin md sq he
      · unfold rz at he
        rw [if_neg hr0] at he
        have hr32 : r < 2 ^ 32 := Nat.lt_of_lt_of_le hr (Nat.pow_le_pow_right (by decide) hf)
        have hms : md * sq < 2 ^ 62 := Nat.lt_of_lt_of_le (Nat.mul_lt_mul'' (show md < 2 ^ 31 by omega) (show sq < 2 ^ 31 by omega)) (by decide)
        have hss : sq * sq < 2 ^ 62 := Nat.lt_of_lt_of_le (Nat.mul_lt_mul'' (show sq < 2 ^ 31 by omega) (show sq < 2 ^ 31 by omega)) (by decide)
        have hn2 : ¬ lN 2 = lN 0 := by decide
        have hnp : ¬ lN p = lN 0 := by rw [pk_lEQ (by omega) (by decide)]; omega
        have er : lN r - lN r / lN 2 * lN 2 = lN (r % 2) := pk_lRem (by omega) (by decide) (by decide)
        have em : lN md * lN sq - lN md * lN sq / lN p * lN p = lN (md * sq % p) := by rw [lN_mul]; exact pk_lRem (by omega) (by omega) (by omega)
        have es : lN sq * lN sq - lN sq * lN sq / lN p * lN p = lN (sq * sq % p) := by rw [lN_mul]; exact pk_lRem (by omega) (by omega) (by omega)
        have ed : lN r / lN 2 = lN (r / 2) := pk_lDiv (by omega) (by decide) (by decide)
        have hnext : ∀ md', md' = (if r % 2 = 1 then md * sq % p else md) → X 40 [(4, .long (lN p)), (8, .long (lN sq)), (10, .long (lN r))] [.long (lN md')] m 0 0 := by
          intro md' hmd'
          refine jm_run hX [(9, [4, 6, 8, 10])] 30 ?_
          refine And.intro hnp (And.intro hn2 ?_)
          have kk := ih md' (sq * sq % p) (r / 2) (by rw [Nat.pow_succ] at hr; omega) (by omega) (by rw [hmd']; split; exact Nat.mod_lt _ (by omega); exact hmd) (Nat.mod_lt _ (by omega)) (by rw [hmd']; exact he)
          rw [← es, ← ed] at kk
          exact kk
        refine jm_run hX [(40, [4, 8, 10])] 40 ?_
        refine And.intro (fun g => ?_) (fun _ => ?_)
        · have g : lg_cmp (lN r) (lN 0) ≤ 0 := g
          rw [lg_cmp_le, pk_lLE (by omega) (by decide)] at g
          omega
        refine And.intro hn2 ?_
        refine And.intro (fun g => ?_) (fun g => ?_)
        · have g : lg_cmp (lN r - lN r / lN 2 * lN 2) (lN 1) = 0 := g
          rw [er, lg_cmp_eq, pk_lEQ (by omega) (by decide)] at g
          refine And.intro hnp ?_
          have kk := hnext (md * sq % p) (by rw [if_pos g])
          rw [← em] at kk
          exact kk
        · have g : ¬ lg_cmp (lN r - lN r / lN 2 * lN 2) (lN 1) = 0 := g
          rw [er, lg_cmp_eq, pk_lEQ (by omega) (by decide)] at g
          exact hnext md (by rw [if_neg g])
  refine jm_run hX [(9, [4, 6, 8, 10])] 10 ?_
  exact loop 32 1 v b hb (Nat.le_refl _) hp hv rfl
theorem c_Mo_inverse {m : jm_M} {v p : Nat} (hv : v < p) (hp : 2 < p) (hp2 : p < 2 ^ 31) : jm_C l D ca n_Mo_inverse [.long (lN v), .long (lN p)] m 0 0 (fun r m' => m' = m ∧ r = some (.long (lN (ivz v p)))) := by
  refine jm_C_of (cd := cd_Mo_inverse) (ini := false) (by decide +kernel) ok_Mo_inverse (fun h => by cases h) (Nat.le_of_ble_eq_true rfl) ?_
  intro X hX
  have key := c_Mo_raise (l := l) (D := D) (ca := ca) (m := m) (v := v) (b := p - 2) hv (by omega) hp2 (by omega)
  rw [← lN_sub (show 2 ≤ p by omega)] at key
  refine jm_run hX [] 20 ?_
  refine ⟨Nat.le_of_ble_eq_true rfl, Nat.le_of_ble_eq_true rfl, 0, 0, _, Nat.le_refl _, Nat.le_refl _, key, fun v m' hq => ?_⟩
  obtain ⟨ee, rfl⟩ := hq
  have ee := ee.symm
  subst ee
  exact ⟨Nat.le_refl _, Nat.le_refl _, trivial, rfl, rfl⟩
/-- an entry of the product, modulo p -/
def mlS (M P : Nat → Nat) (p i j : Nat) : Nat → Nat
  | 0 => 0
  | k + 1 => (mlS M P p i j k + M (9 * i + k) * P (9 * k + j)) % p
def mlM (M P : Nat → Nat) (p : Nat) : Nat → Nat := fun t => mlS M P p (t / 9) (t % 9) 9
theorem mlS_lt {M P : Nat → Nat} {p i j : Nat} (hp : 0 < p) : ∀ k, mlS M P p i j k < p
  | 0 => hp
  | k + 1 => Nat.mod_lt _ hp
/-- a row of longs: its first n -/
def lrow (g : Nat → Int64) (f : Nat → Nat) (n : Nat) : Prop := ∀ i, i < n → g i = lN (f i)
/-- a row filled up to k -/
def lfil (g : Nat → Int64) (f : Nat → Nat) (k : Nat) : Nat → Int64 := fun i => if i < k then lN (f i) else g i
theorem lfil_0 (g : Nat → Int64) (f : Nat → Nat) : lfil g f 0 = g := by
  funext i
  unfold lfil
  rw [if_neg (by omega)]
theorem lfil_s (g : Nat → Int64) (f : Nat → Nat) (k : Nat) : va_up (lfil g f k) k (lN (f k)) = lfil g f (k + 1) := by
  funext i
  by_cases e : i = k
  · subst e
    rw [va_up_self]
    unfold lfil
    rw [if_pos (by omega)]
  · rw [va_up_ne _ _ e]
    unfold lfil
    by_cases w : i < k
    · rw [if_pos w, if_pos (by omega)]
    · rw [if_neg w, if_neg (by omega)]
theorem lfil_row {g : Nat → Int64} {f : Nat → Nat} {n : Nat} : lrow (lfil g f n) f n := fun i hi => if_pos hi
theorem ix9 (i k : Nat) : (9 : Int32) * nI i + nI k = nI (9 * i + k) := by
  have : (9 : Int32) * nI i = nI (9 * i) := pk_mul 9 i
  rw [this, nI_add]
theorem c_Mo_multiply_1 {m : jm_M} {rd : Nat → Nat} {M P : Nat → Nat} {p : Nat} (S : MST m rd) (hM : lrow (m.2.2.2.1 (rd 20)) M 81) (hP : lrow (m.2.2.2.1 (rd 21)) P 81) (hp : 0 < p) (hp2 : p < 2 ^ 31) (hMp : ∀ i, i < 81 → M i < p) (hPp : ∀ i, i < 81 → P i < p) : jm_C l D ca n_Mo_multiply_1 [.ref (rd 0), .long (lN p)] m 0 0 (fun v m' => v = none ∧ m' = uJA m (rd 22) (lfil (m.2.2.2.1 (rd 22)) (mlM M P p) 81)) := by
  refine jm_C_of (cd := cd_Mo_multiply_1) (ini := false) (by decide +kernel) ok_Mo_multiply_1 (fun h => by cases h) (Nat.le_of_ble_eq_true rfl) ?_
  intro X hX
  have o0 : jm_ok m (rd 0) 6 := S.ok (Or.inl (by decide))
  have k20 : mkin 20 := Or.inr (Or.inl (by decide))
  have k21 : mkin 21 := Or.inr (Or.inl (by decide))
  have k22 : mkin 22 := Or.inr (Or.inl (by decide))
  have r20 := S.2.2 20 k20 (by decide)
  have r21 := S.2.2 21 k21 (by decide)
  have r22 := S.2.2 22 k22 (by decide)
  have o20 : jm_ok m (rd 20) 51 := S.ok k20
  have o21 : jm_ok m (rd 21) 51 := S.ok k21
  have o22 : jm_ok m (rd 22) 51 := S.ok k22
  have l20 : (m.2.1 (rd 20)).2 = 81 := S.len k20
  have l21 : (m.2.1 (rd 21)).2 = 81 := S.len k21
  have l22 : (m.2.1 (rd 22)).2 = 81 := S.len k22
  have n20 : rd 20 ≠ rd 22 := S.ne k20 k22 (by decide)
  have n21 : rd 21 ≠ rd 22 := S.ne k21 k22 (by decide)
  have hnp : ¬ lN p = lN 0 := by rw [pk_lEQ (by omega) (by decide)]; omega
  have rows : ∀ (e i : Nat), i + e = 9 → X 2 [(0, .ref (rd 0)), (1, .long (lN p)), (3, .int (nI i))] [] (uJA m (rd 22) (lfil (m.2.2.2.1 (rd 22)) (mlM M P p) (9 * i))) 0 0 := by
    intro e
    induction e with
    | zero =>
      intro i hi
      have hi2 : i = 9 := by omega
      subst hi2
      refine jm_run hX [] 20 ?_
      refine And.intro (fun _ => ?_) (fun g => absurd (nI_le (Nat.le_refl 9) (by decide)) (show ¬ nI 9 ≤ nI 9 from g))
      exact ⟨Nat.le_refl _, Nat.le_refl _, trivial, rfl, rfl⟩
    | succ e ih =>
      intro i hi
      have cols : ∀ (f j : Nat), j + f = 9 → X 11 [(0, .ref (rd 0)), (1, .long (lN p)), (3, .int (nI i)), (4, .int (nI j))] [] (uJA m (rd 22) (lfil (m.2.2.2.1 (rd 22)) (mlM M P p) (9 * i + j))) 0 0 := by
        intro f
        induction f with
        | zero =>
          intro j hj
          have hj2 : j = 9 := by omega
          subst hj2
          refine jm_run hX [(2, [0, 1, 3])] 20 ?_
          refine And.intro (fun _ => ?_) (fun g => absurd (nI_le (Nat.le_refl 9) (by decide)) (show ¬ nI 9 ≤ nI 9 from g))
          have kk := ih (i + 1) (by omega)
          rw [← nI_1, show 9 * (i + 1) = 9 * i + 9 by omega] at kk
          exact kk
        | succ f ihf =>
          intro j hj
          have sums : ∀ (g k : Nat), k + g = 9 → X 24 [(0, .ref (rd 0)), (1, .long (lN p)), (3, .int (nI i)), (4, .int (nI j)), (5, .long (lN (mlS M P p i j k))), (7, .int (nI k))] [] (uJA m (rd 22) (lfil (m.2.2.2.1 (rd 22)) (mlM M P p) (9 * i + j))) 0 0 := by
            intro g
            induction g with
            | zero =>
              intro k hk
              have hk2 : k = 9 := by omega
              subst hk2
              have ei : (9 : Int32) * nI i + nI j = nI (9 * i + j) := ix9 i j
              have hin : vp_in ((9 : Int32) * nI i + nI j) (m.2.1 (rd 22)).2 := by rw [ei]; exact vin_of l22 (by omega) (by decide)
              refine jm_run hX [(11, [0, 1, 3, 4])] 30 ?_
              refine And.intro (fun _ => ?_) (fun g => absurd (nI_le (Nat.le_refl 9) (by decide)) (show ¬ nI 9 ≤ nI 9 from g))
              refine And.intro o0 ⟨some (rd 22), r22, And.intro o22 (And.intro hin ?_)⟩
              have kk := ihf (j + 1) (by omega)
              have ev : mlM M P p (9 * i + j) = mlS M P p i j 9 := by
                unfold mlM
                rw [show (9 * i + j) / 9 = i by omega, show (9 * i + j) % 9 = j by omega]
              rw [show 9 * i + (j + 1) = (9 * i + j) + 1 from rfl, ← lfil_s, ← uJ_uJA, ev, ← nI_1] at kk
              have e2 : ((9 : Int32) * nI i + nI j).toNatClampNeg = 9 * i + j := by rw [ei, nI_c (by omega)]
              have kk2 : X 11 [(0, .ref (rd 0)), (1, .long (lN p)), (3, .int (nI i)), (4, .int (nI j + 1))] [] (uJ (uJA m (rd 22) (lfil (m.2.2.2.1 (rd 22)) (mlM M P p) (9 * i + j))) (rd 22) ((9 : Int32) * nI i + nI j).toNatClampNeg (lN (mlS M P p i j 9))) 0 0 := by
                rw [e2]; exact kk
              exact kk2
            | succ g ihg =>
              intro k hk
              have ea : (9 : Int32) * nI i + nI k = nI (9 * i + k) := ix9 i k
              have eb : (9 : Int32) * nI k + nI j = nI (9 * k + j) := ix9 k j
              have hia : vp_in ((9 : Int32) * nI i + nI k) (m.2.1 (rd 20)).2 := by rw [ea]; exact vin_of l20 (by omega) (by decide)
              have hib : vp_in ((9 : Int32) * nI k + nI j) (m.2.1 (rd 21)).2 := by rw [eb]; exact vin_of l21 (by omega) (by decide)
              have hm9 := hMp (9 * i + k) (by omega)
              have hp9 := hPp (9 * k + j) (by omega)
              have hs9 := mlS_lt (M := M) (P := P) (i := i) (j := j) hp k
              have hprod : M (9 * i + k) * P (9 * k + j) < 2 ^ 62 := Nat.lt_of_lt_of_le (Nat.mul_lt_mul'' (show M (9 * i + k) < 2 ^ 31 by omega) (show P (9 * k + j) < 2 ^ 31 by omega)) (by decide)
              have hv : ∀ g22, (lN (mlS M P p i j k) + va_up m.2.2.2.1 (rd 22) g22 (rd 20) ((9 : Int32) * nI i + nI k).toNatClampNeg * va_up m.2.2.2.1 (rd 22) g22 (rd 21) ((9 : Int32) * nI k + nI j).toNatClampNeg) - (lN (mlS M P p i j k) + va_up m.2.2.2.1 (rd 22) g22 (rd 20) ((9 : Int32) * nI i + nI k).toNatClampNeg * va_up m.2.2.2.1 (rd 22) g22 (rd 21) ((9 : Int32) * nI k + nI j).toNatClampNeg) / lN p * lN p = lN (mlS M P p i j (k + 1)) := fun g22 => by
                rw [ea, eb, nI_c (by omega), nI_c (by omega), va_up_ne _ _ n20, va_up_ne _ _ n21, hM _ (by omega), hP _ (by omega), lN_mul, lN_add, pk_lRem (by omega) hp (by omega)]
                rfl
              refine jm_run hX [(24, [0, 1, 3, 4, 5, 7])] 40 ?_
              refine And.intro (fun g => absurd (show nI 9 ≤ nI k from g) (nI_ge (by omega) (by omega))) (fun _ => ?_)
              refine And.intro o0 ⟨some (rd 20), r20, And.intro o20 (And.intro hia (And.intro o0 ⟨some (rd 21), r21, And.intro o21 (And.intro hib (And.intro hnp ?_))⟩))⟩
              have kk := ihg (k + 1) (by omega)
              rw [← hv (lfil (m.2.2.2.1 (rd 22)) (mlM M P p) (9 * i + j)), ← nI_1] at kk
              exact kk
          refine jm_run hX [(24, [0, 1, 3, 4, 5, 7])] 20 ?_
          refine And.intro (fun g => absurd (show nI 9 ≤ nI j from g) (nI_ge (by omega) (by omega))) (fun _ => ?_)
          exact sums 9 0 (by omega)
      refine jm_run hX [(11, [0, 1, 3, 4])] 20 ?_
      refine And.intro (fun g => absurd (show nI 9 ≤ nI i from g) (nI_ge (by omega) (by omega))) (fun _ => ?_)
      exact cols 9 0 (by omega)
  refine jm_run hX [(2, [0, 1, 3])] 10 ?_
  have kk := rows 9 0 (by omega)
  rw [Nat.mul_zero, lfil_0, uJA_id] at kk
  exact kk
end RB7
