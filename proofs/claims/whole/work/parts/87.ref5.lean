/-- what is carried into word i + j, when x times Y is added to A at word i -/
def cm (A x Y i j : Nat) : Nat := (A % bB ^ (i + j) + x * (Y % bB ^ j) * bB ^ i) / bB ^ (i + j)
theorem cm_0 (A x Y i : Nat) : cm A x Y i 0 = 0 := by
  unfold cm
  rw [Nat.pow_zero, Nat.mod_one, Nat.mul_zero, Nat.zero_mul, Nat.add_zero, Nat.add_zero]
  exact Nat.div_eq_of_lt (Nat.mod_lt _ (bp i))
theorem cm_v (A x Y i j : Nat) : (A % bB ^ (i + j + 1) + x * (Y % bB ^ (j + 1)) * bB ^ i) / bB ^ (i + j) = dg A (i + j) + x * dg Y j + cm A x Y i j := by
  unfold cm
  have e : A % bB ^ (i + j + 1) + x * (Y % bB ^ (j + 1)) * bB ^ i = bB ^ (i + j) * (dg A (i + j) + x * dg Y j) + (A % bB ^ (i + j) + x * (Y % bB ^ j) * bB ^ i) := by
    rw [dg_s A, dg_s Y, Nat.pow_add]
    generalize A % (bB ^ i * bB ^ j) = a
    generalize dg A (i + j) = da
    generalize Y % bB ^ j = y
    generalize dg Y j = dy
    generalize bB ^ i = p
    generalize bB ^ j = q
    grind
  rw [e, Nat.mul_add_div (bp (i + j))]
theorem cm_s (A x Y i j : Nat) : (dg A (i + j) + x * dg Y j + cm A x Y i j) / bB = cm A x Y i (j + 1) := by
  rw [← cm_v, Nat.div_div_eq_div_mul, ← Nat.pow_succ]; rfl
theorem cm_d (A x Y i j : Nat) : (dg A (i + j) + x * dg Y j + cm A x Y i j) % bB = dg (A + x * Y * bB ^ i) (i + j) := by
  rw [← cm_v]
  unfold dg
  have e : A + x * Y * bB ^ i = bB ^ (i + j) * (bB * (A / bB ^ (i + j + 1) + x * (Y / bB ^ (j + 1)))) + (A % bB ^ (i + j + 1) + x * (Y % bB ^ (j + 1)) * bB ^ i) := by
    have h1 := Nat.div_add_mod A (bB ^ (i + j + 1))
    have h2 := Nat.div_add_mod Y (bB ^ (j + 1))
    have h3 : x * Y * bB ^ i = x * (bB ^ (j + 1) * (Y / bB ^ (j + 1)) + Y % bB ^ (j + 1)) * bB ^ i := by rw [h2]
    have h4 : A = bB ^ (i + j + 1) * (A / bB ^ (i + j + 1)) + A % bB ^ (i + j + 1) := h1.symm
    rw [h3]
    generalize hq : A / bB ^ (i + j + 1) = q at *
    generalize hr : A % bB ^ (i + j + 1) = r at *
    rw [h4]
    generalize Y / bB ^ (j + 1) = s
    generalize Y % bB ^ (j + 1) = u
    rw [Nat.pow_succ, Nat.pow_succ, Nat.pow_add]
    generalize bB ^ i = p
    generalize bB ^ j = t
    grind
  rw [e, Nat.mul_add_div (bp (i + j)), Nat.mul_add_mod]
theorem cm_le (A x Y i j : Nat) : cm A x Y i j ≤ x := by
  unfold cm
  have h1 := Nat.mod_lt A (bp (i + j))
  have h2 := Nat.mod_lt Y (bp j)
  have h3 : x * (Y % bB ^ j) * bB ^ i ≤ x * (bB ^ j - 1) * bB ^ i := Nat.mul_le_mul_right _ (Nat.mul_le_mul_left _ (by omega))
  have h4 : x * (bB ^ j - 1) * bB ^ i = x * bB ^ (i + j) - x * bB ^ i := by
    rw [Nat.mul_sub, Nat.sub_mul, Nat.mul_one, Nat.pow_add, Nat.mul_assoc, Nat.mul_comm (bB ^ j)]
  rcases Nat.eq_zero_or_pos x with w | w
  · subst w
    rw [Nat.zero_mul, Nat.zero_mul, Nat.add_zero, Nat.div_eq_of_lt h1]; exact Nat.le_refl 0
  · refine Nat.le_of_lt_succ ((Nat.div_lt_iff_lt_mul (bp (i + j))).mpr ?_)
    have h5 : bB ^ i ≤ x * bB ^ i := Nat.le_mul_of_pos_left _ w
    have h6 : x * bB ^ i ≤ x * bB ^ (i + j) := Nat.mul_le_mul_left _ (Nat.pow_le_pow_right (by decide) (by omega))
    rw [Nat.succ_mul]
    have := bp i
    omega
theorem bup_bup (g : Nat → Int64) (n X Y : Nat) : bup (bup g n X 24) n Y 24 = bup g n Y 24 := by
  funext i
  unfold bup
  by_cases w : 24 * n ≤ i ∧ i < 24 * n + 24
  · rw [if_pos w, if_pos w]
  · rw [if_neg w, if_neg w, if_neg w]
/-- the words below i are those of both -/
theorem bup_same (g : Nat → Int64) {n X Y i : Nat} (hi : i ≤ 24) (h : ∀ k, k < i → dg X k = dg Y k) : bup (bup g n X 24) n Y i = bup g n X 24 := by
  funext t
  unfold bup
  by_cases w : 24 * n ≤ t ∧ t < 24 * n + i
  · rw [if_pos w, if_pos (by omega), h _ (by omega)]
  · rw [if_neg w]
theorem ix24b (n i j : Nat) : (24 : Int32) * nI n + nI i + nI j = nI (24 * n + (i + j)) := by
  rw [ix24, nI_add, Nat.add_assoc]
section RB5
variable {l : Launch} {D : va_G} {ca : Nat → ClassId}
theorem c_Mo_multiply_2 {m : jm_M} {rd V : Nat → Nat} {a b c : Nat} (S : MST m rd) (hg : bgv (m.2.2.2.1 (rd 25)) V) (ha : a < 6) (hb : b < 6) (hc : c < 6) (hac : a ≠ c) (hbc : b ≠ c) (hp : V a * V b < bB ^ 24) : jm_C l D ca n_Mo_multiply_2 [.ref (rd 0), .int (nI a), .int (nI b), .int (nI c)] m 0 0 (fun v m' => v = none ∧ m' = uJA m (rd 25) (bup (m.2.2.2.1 (rd 25)) c (V a * V b) 24)) := by
  refine jm_C_of (cd := cd_Mo_multiply_2) (ini := false) (by decide +kernel) ok_Mo_multiply_2 (fun h => by cases h) (Nat.le_of_ble_eq_true rfl) ?_
  intro X hX
  have o0 : jm_ok m (rd 0) 6 := S.ok (Or.inl (by decide))
  have r25 : m.2.2.2.2 (rd 0) 25 = some (rd 25) := S.2.2 25 (Or.inr (Or.inl (by decide))) (by decide)
  have o25 : jm_ok m (rd 25) 51 := S.ok (k := 25) (Or.inr (Or.inl (by decide)))
  have l25 : (m.2.1 (rd 25)).2 = 144 := S.len (k := 25) (Or.inr (Or.inl (by decide)))
  have outer : ∀ (e i : Nat), i + e = 24 → X 8 [(0, .ref (rd 0)), (1, .int (nI a)), (2, .int (nI b)), (3, .int (nI c)), (4, .int (nI i))] [] (uJA m (rd 25) (bup (m.2.2.2.1 (rd 25)) c (V a % bB ^ i * V b) 24)) 0 0 := by
    intro e
    induction e with
    | zero =>
      intro i hi
      have hi2 : i = 24 := by omega
      subst hi2
      rw [Nat.mod_eq_of_lt (hg a ha).1]
      refine jm_run hX [] 20 ?_
      refine And.intro (fun _ => ?_) (fun g => ?_)
      · exact ⟨Nat.le_refl _, Nat.le_refl _, trivial, rfl, rfl⟩
      · exact absurd (nI_le (Nat.le_refl 24) (by decide)) (show ¬ nI 24 ≤ nI 24 from g)
    | succ e ih =>
      intro i hi
      have hx : dg (V a) i < 268435456 := dg_lt _ _
      have hZ : V a % bB ^ (i + 1) * V b = V a % bB ^ i * V b + dg (V a) i * V b * bB ^ i := by
        rw [dg_s]
        generalize V a % bB ^ i = p
        generalize dg (V a) i = q
        generalize bB ^ i = t
        grind
      have hg2 : bgv (bup (m.2.2.2.1 (rd 25)) c (V a % bB ^ i * V b) 24) (va_up V c (V a % bB ^ i * V b)) := hg.set (Nat.lt_of_le_of_lt (Nat.mul_le_mul_right _ (Nat.mod_le _ _)) hp)
      have kn : X 128 [(0, .ref (rd 0)), (1, .int (nI a)), (2, .int (nI b)), (3, .int (nI c)), (4, .int (nI i))] [] (uJA m (rd 25) (bup (m.2.2.2.1 (rd 25)) c (V a % bB ^ (i + 1) * V b) 24)) 0 0 := by
        refine jm_run hX [(8, [0, 1, 2, 3, 4])] 5 ?_
        have kk := ih (i + 1) (by omega)
        rw [← nI_1] at kk
        exact kk
      generalize hZ2 : V a % bB ^ (i + 1) * V b = Z2 at *
      generalize hA : V a % bB ^ i * V b = A at *
      -- the words of a and b stand
      have wv : ∀ n, n < 6 → n ≠ c → ∀ k, k < 24 → ∀ q, q ≤ 24 → bup (bup (m.2.2.2.1 (rd 25)) c A 24) c Z2 q (24 * n + k) = lN (dg (V n) k) := fun n hn hnc k hk q hq => by
        rw [bup_hi (by omega), bup_hi (by omega)]; exact (hg n hn).2 k hk
      have ei : (24 : Int32) * nI a + nI i = nI (24 * a + i) := ix24 a i
      have hia : vp_in ((24 : Int32) * nI a + nI i) (m.2.1 (rd 25)).2 := by rw [ei]; exact vin_of l25 (by omega) (by decide)
      have ea : ∀ q, q ≤ 24 → va_up m.2.2.2.1 (rd 25) (bup (bup (m.2.2.2.1 (rd 25)) c A 24) c Z2 q) (rd 25) ((24 : Int32) * nI a + nI i).toNatClampNeg = lN (dg (V a) i) := fun q hq => by
        rw [ei, nI_c (by omega), va_up_self]; exact wv a ha hac i (by omega) q hq
      have inner : ∀ (f j : Nat), i + j + f = 24 → 0 < dg (V a) i → X 21 [(0, .ref (rd 0)), (1, .int (nI a)), (2, .int (nI b)), (3, .int (nI c)), (4, .int (nI i)), (5, .long (lN (cm A (dg (V a) i) (V b) i j))), (7, .int (nI j))] [] (uJA m (rd 25) (bup (bup (m.2.2.2.1 (rd 25)) c A 24) c Z2 (i + j))) 0 0 := by
        intro f
        induction f with
        | zero =>
          intro j hj h0
          refine jm_run hX [(128, [0, 1, 2, 3, 4])] 20 ?_
          refine And.intro (fun _ => ?_) (fun g => ?_)
          · rw [show i + j = 24 by omega, bup_bup]; exact kn
          · have g : ¬ nI 24 ≤ nI i + nI j := g
            rw [nI_add] at g
            exact absurd (nI_le (by omega) (by omega)) g
        | succ f ihf =>
          intro j hj h0
          have eb : (24 : Int32) * nI b + nI j = nI (24 * b + j) := ix24 b j
          have ec : (24 : Int32) * nI c + nI i + nI j = nI (24 * c + (i + j)) := ix24b c i j
          have hib : vp_in ((24 : Int32) * nI b + nI j) (m.2.1 (rd 25)).2 := by rw [eb]; exact vin_of l25 (by omega) (by decide)
          have hic : vp_in ((24 : Int32) * nI c + nI i + nI j) (m.2.1 (rd 25)).2 := by rw [ec]; exact vin_of l25 (by omega) (by decide)
          have e1 := ea (i + j) (by omega)
          have e2 : va_up m.2.2.2.1 (rd 25) (bup (bup (m.2.2.2.1 (rd 25)) c A 24) c Z2 (i + j)) (rd 25) ((24 : Int32) * nI b + nI j).toNatClampNeg = lN (dg (V b) j) := by
            rw [eb, nI_c (by omega), va_up_self]; exact wv b hb hbc j (by omega) (i + j) (by omega)
          have e3 : va_up m.2.2.2.1 (rd 25) (bup (bup (m.2.2.2.1 (rd 25)) c A 24) c Z2 (i + j)) (rd 25) ((24 : Int32) * nI c + nI i + nI j).toNatClampNeg = lN (dg A (i + j)) := by
            rw [ec, nI_c (by omega), va_up_self, bup_hi (by omega)]; exact bup_lo (by omega)
          have hy : dg (V b) j < 268435456 := dg_lt _ _
          have hz : dg A (i + j) < 268435456 := dg_lt _ _
          have hcm := cm_le A (dg (V a) i) (V b) i j
          have hv : dg A (i + j) + dg (V a) i * dg (V b) j + cm A (dg (V a) i) (V b) i j < 2 ^ 63 := by
            have : dg (V a) i * dg (V b) j ≤ 268435456 * 268435456 := Nat.mul_le_mul (by omega) (by omega)
            omega
          have hvv : va_up m.2.2.2.1 (rd 25) (bup (bup (m.2.2.2.1 (rd 25)) c A 24) c Z2 (i + j)) (rd 25) ((24 : Int32) * nI c + nI i + nI j).toNatClampNeg + va_up m.2.2.2.1 (rd 25) (bup (bup (m.2.2.2.1 (rd 25)) c A 24) c Z2 (i + j)) (rd 25) ((24 : Int32) * nI a + nI i).toNatClampNeg * va_up m.2.2.2.1 (rd 25) (bup (bup (m.2.2.2.1 (rd 25)) c A 24) c Z2 (i + j)) (rd 25) ((24 : Int32) * nI b + nI j).toNatClampNeg + lN (cm A (dg (V a) i) (V b) i j) = lN (dg A (i + j) + dg (V a) i * dg (V b) j + cm A (dg (V a) i) (V b) i j) := by
            rw [e1, e2, e3, lN_mul, lN_add, lN_add]
          refine jm_run hX [(21, [0, 1, 2, 3, 4, 5, 7])] 70 ?_
          refine And.intro (fun g => ?_) (fun _ => ?_)
          · have g : nI 24 ≤ nI i + nI j := g
            rw [nI_add] at g
            exact absurd g (nI_ge (by omega) (by omega))
          refine And.intro o0 ⟨some (rd 25), r25, And.intro o25 (And.intro hia (And.intro (fun g => ?_) (fun _ => ?_)))⟩
          · have g : lg_cmp (va_up m.2.2.2.1 (rd 25) (bup (bup (m.2.2.2.1 (rd 25)) c A 24) c Z2 (i + j)) (rd 25) ((24 : Int32) * nI a + nI i).toNatClampNeg) (lN 0) ≤ 0 := g
            rw [e1, lg_cmp_le, pk_lLE (by omega) (by decide)] at g
            omega
          refine And.intro o0 ⟨some (rd 25), r25, And.intro o25 (And.intro hic (And.intro o0 ⟨some (rd 25), r25, And.intro o25 (And.intro hia (And.intro o0 ⟨some (rd 25), r25, And.intro o25 (And.intro hib (And.intro o0 ⟨some (rd 25), r25, And.intro o25 (And.intro hic ?_)⟩))⟩))⟩))⟩
          have kk := ihf (j + 1) (by omega) h0
          have hdZ : dg Z2 (i + j) = (dg A (i + j) + dg (V a) i * dg (V b) j + cm A (dg (V a) i) (V b) i j) % bB := by rw [cm_d, ← hZ]
          rw [show i + (j + 1) = (i + j) + 1 from rfl, ← bup_s, ← uJ_uJA, ← nI_1, ← cm_s, hdZ, ← bb_s hv, ← bb_a hv, ← hvv] at kk
          have e4 : ((24 : Int32) * nI c + nI i + nI j).toNatClampNeg = 24 * c + (i + j) := by rw [ec, nI_c (by omega)]
          rw [← e4] at kk
          exact kk
      have k8 : X 15 [(0, .ref (rd 0)), (1, .int (nI a)), (2, .int (nI b)), (3, .int (nI c)), (4, .int (nI i))] [] (uJA m (rd 25) (bup (m.2.2.2.1 (rd 25)) c A 24)) 0 0 := by
        by_cases h0 : 0 < dg (V a) i
        · refine jm_run hX [(21, [0, 1, 2, 3, 4, 5, 7])] 20 ?_
          have kk := inner (24 - i) 0 (by omega) h0
          have hsame : bup (bup (m.2.2.2.1 (rd 25)) c A 24) c Z2 (i + 0) = bup (m.2.2.2.1 (rd 25)) c A 24 := bup_same _ (by omega) (fun k hk => by
            have e5 : Z2 = bB ^ i * (dg (V a) i * V b) + A := by rw [hZ]; generalize bB ^ i = t; grind
            unfold dg
            have e6 : bB ^ i = bB ^ k * (bB * bB ^ (i - k - 1)) := by
              rw [← Nat.mul_assoc, ← Nat.pow_succ, ← Nat.pow_add]; congr 1; omega
            rw [e5, e6, Nat.mul_assoc, Nat.mul_add_div (bp k), Nat.mul_assoc, Nat.mul_add_mod])
          rw [hsame, cm_0] at kk
          exact kk
        · have hd0 : dg (V a) i = 0 := by omega
          have hAZ : Z2 = A := by rw [hZ, hd0, Nat.zero_mul, Nat.zero_mul, Nat.add_zero]
          rw [hAZ] at kn
          have e1 : va_up m.2.2.2.1 (rd 25) (bup (m.2.2.2.1 (rd 25)) c A 24) (rd 25) ((24 : Int32) * nI a + nI i).toNatClampNeg = lN (dg (V a) i) := by
            rw [ei, nI_c (by omega), va_up_self, bup_hi (by omega)]; exact (hg a ha).2 i (by omega)
          refine jm_run hX [(128, [0, 1, 2, 3, 4])] 40 ?_
          refine And.intro (fun _ => kn) (fun _ => ?_)
          refine And.intro o0 ⟨some (rd 25), r25, And.intro o25 (And.intro hia (And.intro (fun _ => kn) (fun g => ?_)))⟩
          have g : ¬ lg_cmp (va_up m.2.2.2.1 (rd 25) (bup (m.2.2.2.1 (rd 25)) c A 24) (rd 25) ((24 : Int32) * nI a + nI i).toNatClampNeg) (lN 0) ≤ 0 := g
          rw [e1, lg_cmp_le, pk_lLE (by omega) (by decide)] at g
          omega
      refine jm_run hX [(15, [0, 1, 2, 3, 4])] 10 ?_
      refine And.intro (fun g => absurd (show nI 24 ≤ nI i from g) (nI_ge (by omega) (by omega))) (fun _ => k8)
  have kcl := c_Mo_clear (l := l) (D := D) (ca := ca) (n := c) S hc
  refine jm_run hX [(8, [0, 1, 2, 3, 4])] 20 ?_
  refine And.intro o0 (And.intro (Nat.le_of_ble_eq_true rfl) (And.intro (Nat.le_of_ble_eq_true rfl) ⟨0, 0, _, Nat.le_refl _, Nat.le_refl _, kcl, fun v m2 hq => ?_⟩))
  obtain ⟨rfl, em2⟩ := hq
  have kk := outer 24 0 (by omega)
  rw [Nat.pow_zero, Nat.mod_one, Nat.zero_mul, ← em2] at kk
  exact kk
end RB5
