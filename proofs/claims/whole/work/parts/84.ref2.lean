theorem nI_prd (k : Nat) : nI (k + 1) + (-1) = nI k := by
  have := nI_less (x := k + 1) (k := 1) (by omega)
  exact this
section RB2
variable {l : Launch} {D : va_G} {ca : Nat → ClassId}
theorem c_Mo_add {m : jm_M} {rd V : Nat → Nat} {n c : Nat} (S : MST m rd) (hg : bgv (m.2.2.2.1 (rd 25)) V) (hn : n < 6) (hc : c < 2 ^ 31) : jm_C l D ca n_Mo_add [.ref (rd 0), .int (nI n), .long (lN c)] m 0 0 (fun v m' => v = none ∧ m' = uJA m (rd 25) (bup (m.2.2.2.1 (rd 25)) n (V n + c) 24)) := by
  rw [show V n + c = V n * 1 + c by omega]
  refine jm_C_of (cd := cd_Mo_add) (ini := false) (by decide +kernel) ok_Mo_add (fun h => by cases h) (Nat.le_of_ble_eq_true rfl) ?_
  intro X hX
  have o0 : jm_ok m (rd 0) 6 := S.ok (Or.inl (by decide))
  have r25 : m.2.2.2.2 (rd 0) 25 = some (rd 25) := S.2.2 25 (Or.inr (Or.inl (by decide))) (by decide)
  have o25 : jm_ok m (rd 25) 51 := S.ok (k := 25) (Or.inr (Or.inl (by decide)))
  have l25 : (m.2.1 (rd 25)).2 = 144 := S.len (k := 25) (Or.inr (Or.inl (by decide)))
  have loop : ∀ (e k : Nat), k + e = 24 → X 6 [(0, .ref (rd 0)), (1, .int (nI n)), (4, .long (lN (cs (V n) 1 c k))), (6, .int (nI k))] [] (uJA m (rd 25) (bup (m.2.2.2.1 (rd 25)) n (V n * 1 + c) k)) 0 0 := by
    intro e
    induction e with
    | zero =>
      intro k hk
      have hk2 : k = 24 := by omega
      subst hk2
      refine jm_run hX [] 20 ?_
      refine And.intro (fun _ => ?_) (fun g => ?_)
      · exact ⟨Nat.le_refl _, Nat.le_refl _, trivial, rfl, rfl⟩
      · exact absurd (nI_le (Nat.le_refl 24) (by decide)) (show ¬ nI 24 ≤ nI 24 from g)
    | succ e ih =>
      intro k hk
      refine jm_run hX [(6, [0, 1, 4, 6])] 40 ?_
      refine And.intro (fun g => absurd (show nI 24 ≤ nI k from g) (nI_ge (by omega) (by omega))) (fun _ => ?_)
      have ei : (24 : Int32) * nI n + nI k = nI (24 * n + k) := ix24 n k
      have ev : bup (m.2.2.2.1 (rd 25)) n (V n * 1 + c) k (24 * n + k) = lN (dg (V n) k) := by
        rw [bup_hi (by omega)]; exact (hg n hn).2 k (by omega)
      have hcs : cs (V n) 1 c k ≤ 2 ^ 31 := cs_lt (by decide) hc
      have hd : dg (V n) k < 268435456 := dg_lt (V n) k
      have hv : dg (V n) k * 1 + cs (V n) 1 c k < 2 ^ 63 := by omega
      have hvv : va_up m.2.2.2.1 (rd 25) (bup (m.2.2.2.1 (rd 25)) n (V n * 1 + c) k) (rd 25) ((24 : Int32) * nI n + nI k).toNatClampNeg + lN (cs (V n) 1 c k) = lN (dg (V n) k * 1 + cs (V n) 1 c k) := by
        rw [ei, nI_c (by omega), va_up_self, ev, lN_add, Nat.mul_one]
      have hin : vp_in ((24 : Int32) * nI n + nI k) (m.2.1 (rd 25)).2 := by rw [ei]; exact vin_of l25 (by omega) (by decide)
      refine And.intro o0 ⟨some (rd 25), r25, And.intro o25 (And.intro hin (And.intro o0 ⟨some (rd 25), r25, And.intro o25 (And.intro hin ?_)⟩))⟩
      have kk := ih (k + 1) (by omega)
      rw [← bup_s, ← uJ_uJA, ← nI_1, ← cs_s, ← cs_d, ← bb_s hv, ← bb_a hv, ← hvv] at kk
      have e2 : ((24 : Int32) * nI n + nI k).toNatClampNeg = 24 * n + k := by rw [ei, nI_c (by omega)]
      show X 6 [(0, .ref (rd 0)), (1, .int (nI n)), (4, .long ((va_up m.2.2.2.1 (rd 25) (bup (m.2.2.2.1 (rd 25)) n (V n * 1 + c) k) (rd 25) ((24 : Int32) * nI n + nI k).toNatClampNeg + lN (cs (V n) 1 c k)) >>> ((28 : Int32).toInt64 &&& 63))), (6, .int (nI k + 1))] [] (uJ (uJA m (rd 25) (bup (m.2.2.2.1 (rd 25)) n (V n * 1 + c) k)) (rd 25) ((24 : Int32) * nI n + nI k).toNatClampNeg ((va_up m.2.2.2.1 (rd 25) (bup (m.2.2.2.1 (rd 25)) n (V n * 1 + c) k) (rd 25) ((24 : Int32) * nI n + nI k).toNatClampNeg + lN (cs (V n) 1 c k)) &&& 268435455)) 0 0
      rw [e2] at kk ⊢
      exact kk
  refine jm_run hX [(6, [0, 1, 4, 6])] 10 ?_
  have := loop 24 0 (by omega)
  rw [bup_0, uJA_id, cs_0] at this
  exact this
theorem c_Mo_isZero {m : jm_M} {rd V : Nat → Nat} {n : Nat} (S : MST m rd) (hg : bgv (m.2.2.2.1 (rd 25)) V) (hn : n < 6) : jm_C l D ca n_Mo_isZero [.ref (rd 0), .int (nI n)] m 0 0 (fun v m' => m' = m ∧ v = some (.int (if V n = 0 then 1 else 0))) := by
  refine jm_C_of (cd := cd_Mo_isZero) (ini := false) (by decide +kernel) ok_Mo_isZero (fun h => by cases h) (Nat.le_of_ble_eq_true rfl) ?_
  intro X hX
  have o0 : jm_ok m (rd 0) 6 := S.ok (Or.inl (by decide))
  have r25 : m.2.2.2.2 (rd 0) 25 = some (rd 25) := S.2.2 25 (Or.inr (Or.inl (by decide))) (by decide)
  have o25 : jm_ok m (rd 25) 51 := S.ok (k := 25) (Or.inr (Or.inl (by decide)))
  have l25 : (m.2.1 (rd 25)).2 = 144 := S.len (k := 25) (Or.inr (Or.inl (by decide)))
  have loop : ∀ (e k : Nat) (z : Bool), k + e = 24 → (z = true ↔ ∀ j, j < k → dg (V n) j = 0) → X 4 [(0, .ref (rd 0)), (1, .int (nI n)), (2, .int (bI z)), (3, .int (nI k))] [] m 0 0 := by
    intro e
    induction e with
    | zero =>
      intro k z hk hz
      have hk2 : k = 24 := by omega
      subst hk2
      refine jm_run hX [] 20 ?_
      refine And.intro (fun _ => ?_) (fun g => ?_)
      · have hv : (bI z : Int32) = if V n = 0 then 1 else 0 := by
          by_cases w : V n = 0
          · have : z = true := hz.mpr (fun j _ => by rw [w]; exact dg_z j)
            rw [this, if_pos w]; rfl
          · have : z = false := by
              cases z with
              | false => rfl
              | true => exact absurd (dg_eq (hg n hn).1 (Y := 0) (bp 24) (fun j hj => by rw [hz.mp rfl j hj, dg_z])) w
            rw [this, if_neg w]; rfl
        refine ⟨Nat.le_refl _, Nat.le_refl _, ?_, rfl, ?_⟩
        · show bI z = 0 ∨ bI z = 1
          cases z
          · exact Or.inl rfl
          · exact Or.inr rfl
        · show some (Value.int (bI z)) = _
          rw [hv]
      · exact absurd (nI_le (Nat.le_refl 24) (by decide)) (show ¬ nI 24 ≤ nI 24 from g)
    | succ e ih =>
      intro k z hk hz
      have ei : (24 : Int32) * nI n + nI k = nI (24 * n + k) := ix24 n k
      have ev := (hg n hn).2 k (by omega)
      have hd : dg (V n) k < 268435456 := dg_lt (V n) k
      have kn : ∀ z' : Bool, (z' = true ↔ ∀ j, j < k + 1 → dg (V n) j = 0) → X 4 [(0, .ref (rd 0)), (1, .int (nI n)), (2, .int (bI z')), (3, .int (nI k + 1))] [] m 0 0 := fun z' hz' => by
        rw [nI_1]; exact ih (k + 1) z' (by omega) hz'
      refine jm_run hX [(4, [0, 1, 2, 3])] 40 ?_
      refine And.intro (fun g => absurd (show nI 24 ≤ nI k from g) (nI_ge (by omega) (by omega))) (fun _ => ?_)
      cases z with
      | false =>
        refine And.intro (fun _ => ?_) (fun g => absurd rfl g)
        refine kn false ⟨(fun q => by cases q), fun q => ?_⟩
        exact hz.mpr (fun j hj => q j (by omega))
      | true =>
        refine And.intro (fun g => absurd g (by decide)) (fun _ => ?_)
        have hin : vp_in ((24 : Int32) * nI n + nI k) (m.2.1 (rd 25)).2 := by rw [ei]; exact vin_of l25 (by omega) (by decide)
        refine And.intro o0 ⟨some (rd 25), r25, And.intro o25 (And.intro hin ?_)⟩
        have e2 : m.2.2.2.1 (rd 25) ((24 : Int32) * nI n + nI k).toNatClampNeg = lN (dg (V n) k) := by rw [ei, nI_c (by omega)]; exact ev
        refine And.intro (fun g => ?_) (fun g => ?_)
        · have g : lg_cmp (m.2.2.2.1 (rd 25) ((24 : Int32) * nI n + nI k).toNatClampNeg) (lN 0) = 0 := g
          rw [e2, lg_cmp_eq, pk_lEQ (by omega) (by decide)] at g
          refine kn true ⟨fun _ j hj => ?_, fun _ => rfl⟩
          rcases Nat.lt_or_ge j k with w | w
          · exact hz.mp rfl j w
          · rw [show j = k by omega]; exact g
        · have g : ¬ lg_cmp (m.2.2.2.1 (rd 25) ((24 : Int32) * nI n + nI k).toNatClampNeg) (lN 0) = 0 := g
          rw [e2, lg_cmp_eq, pk_lEQ (by omega) (by decide)] at g
          exact kn false ⟨(fun q => by cases q), fun q => absurd (q k (by omega)) g⟩
  refine jm_run hX [(4, [0, 1, 2, 3])] 10 ?_
  exact loop 24 0 true (by omega) ⟨fun _ j hj => absurd hj (by omega), fun _ => rfl⟩
theorem c_Mo_isLess {m : jm_M} {rd V : Nat → Nat} {a b : Nat} (S : MST m rd) (hg : bgv (m.2.2.2.1 (rd 25)) V) (ha : a < 6) (hb : b < 6) : jm_C l D ca n_Mo_isLess [.ref (rd 0), .int (nI a), .int (nI b)] m 0 0 (fun v m' => m' = m ∧ v = some (.int (if V a < V b then 1 else 0))) := by
  refine jm_C_of (cd := cd_Mo_isLess) (ini := false) (by decide +kernel) ok_Mo_isLess (fun h => by cases h) (Nat.le_of_ble_eq_true rfl) ?_
  intro X hX
  have o0 : jm_ok m (rd 0) 6 := S.ok (Or.inl (by decide))
  have r25 : m.2.2.2.2 (rd 0) 25 = some (rd 25) := S.2.2 25 (Or.inr (Or.inl (by decide))) (by decide)
  have o25 : jm_ok m (rd 25) 51 := S.ok (k := 25) (Or.inr (Or.inl (by decide)))
  have l25 : (m.2.1 (rd 25)).2 = 144 := S.len (k := 25) (Or.inr (Or.inl (by decide)))
  have loop : ∀ (k : Nat), k ≤ 24 → (∀ j, k ≤ j → j < 24 → dg (V a) j = dg (V b) j) → X 3 [(0, .ref (rd 0)), (1, .int (nI a)), (2, .int (nI b)), (3, .int (nI k + (-1)))] [] m 0 0 := by
    intro k
    induction k with
    | zero =>
      intro _ he
      have e : V a = V b := dg_eq (hg a ha).1 (hg b hb).1 (fun j hj => he j (by omega) hj)
      refine jm_run hX [] 20 ?_
      refine And.intro (fun _ => ?_) (fun g => absurd (show (nI 0 + (-1) : Int32) < 0 by decide) g)
      exact ⟨Nat.le_refl _, Nat.le_refl _, Or.inl rfl, rfl, by rw [if_neg (by omega)]⟩
    | succ k ih =>
      intro hk he
      have e1 : nI (k + 1) + (-1) = nI k := nI_prd k
      rw [e1]
      have ea : (24 : Int32) * nI a + nI k = nI (24 * a + k) := ix24 a k
      have eb : (24 : Int32) * nI b + nI k = nI (24 * b + k) := ix24 b k
      have va := (hg a ha).2 k (by omega)
      have vb := (hg b hb).2 k (by omega)
      have hda : dg (V a) k < 268435456 := dg_lt (V a) k
      have hdb : dg (V b) k < 268435456 := dg_lt (V b) k
      have hia : vp_in ((24 : Int32) * nI a + nI k) (m.2.1 (rd 25)).2 := by rw [ea]; exact vin_of l25 (by omega) (by decide)
      have hib : vp_in ((24 : Int32) * nI b + nI k) (m.2.1 (rd 25)).2 := by rw [eb]; exact vin_of l25 (by omega) (by decide)
      have e2 : m.2.2.2.1 (rd 25) ((24 : Int32) * nI a + nI k).toNatClampNeg = lN (dg (V a) k) := by rw [ea, nI_c (by omega)]; exact va
      have e3 : m.2.2.2.1 (rd 25) ((24 : Int32) * nI b + nI k).toNatClampNeg = lN (dg (V b) k) := by rw [eb, nI_c (by omega)]; exact vb
      refine jm_run hX [(3, [0, 1, 2, 3])] 60 ?_
      refine And.intro (fun g => absurd (show nI k < 0 from g) (nI_pos (by omega))) (fun _ => ?_)
      refine And.intro o0 ⟨some (rd 25), r25, And.intro o25 (And.intro hia (And.intro o0 ⟨some (rd 25), r25, And.intro o25 (And.intro hib ?_)⟩))⟩
      refine And.intro (fun g => ?_) (fun g => ?_)
      · have g : lg_cmp (m.2.2.2.1 (rd 25) ((24 : Int32) * nI a + nI k).toNatClampNeg) (m.2.2.2.1 (rd 25) ((24 : Int32) * nI b + nI k).toNatClampNeg) = 0 := g
        rw [e2, e3, lg_cmp_eq, pk_lEQ (by omega) (by omega)] at g
        refine ih (by omega) (fun j h1 h2 => ?_)
        rcases Nat.lt_or_ge k j with w | w
        · exact he j (by omega) h2
        · rw [show j = k by omega]; exact g
      · have g : ¬ lg_cmp (m.2.2.2.1 (rd 25) ((24 : Int32) * nI a + nI k).toNatClampNeg) (m.2.2.2.1 (rd 25) ((24 : Int32) * nI b + nI k).toNatClampNeg) = 0 := g
        rw [e2, e3, lg_cmp_eq, pk_lEQ (by omega) (by omega)] at g
        have hcmp := dg_cmp (hg a ha).1 (hg b hb).1 (show k < 24 by omega) (fun j h1 h2 => he j (by omega) h2) g
        refine And.intro o0 ⟨some (rd 25), r25, And.intro o25 (And.intro hia (And.intro o0 ⟨some (rd 25), r25, And.intro o25 (And.intro hib ?_)⟩))⟩
        refine And.intro (fun g2 => ?_) (fun g2 => ?_)
        · have g2 : 0 ≤ lg_cmp (m.2.2.2.1 (rd 25) ((24 : Int32) * nI a + nI k).toNatClampNeg) (m.2.2.2.1 (rd 25) ((24 : Int32) * nI b + nI k).toNatClampNeg) := g2
          rw [e2, e3, lg_cmp_ge, pk_lLE (by omega) (by omega)] at g2
          exact ⟨Nat.le_refl _, Nat.le_refl _, Or.inl rfl, rfl, by rw [if_neg (fun q => by have := hcmp.mp q; omega)]⟩
        · have g2 : ¬ 0 ≤ lg_cmp (m.2.2.2.1 (rd 25) ((24 : Int32) * nI a + nI k).toNatClampNeg) (m.2.2.2.1 (rd 25) ((24 : Int32) * nI b + nI k).toNatClampNeg) := g2
          rw [e2, e3, lg_cmp_ge, pk_lLE (by omega) (by omega)] at g2
          exact ⟨Nat.le_refl _, Nat.le_refl _, Or.inr rfl, rfl, by rw [if_pos (hcmp.mpr (by omega))]⟩
  refine jm_run hX [(3, [0, 1, 2, 3])] 10 ?_
  exact loop 24 (Nat.le_refl _) (fun j h1 h2 => absurd h1 (by omega))
theorem c_Mo_wordsOf {m : jm_M} {rd V : Nat → Nat} {n : Nat} (S : MST m rd) (hg : bgv (m.2.2.2.1 (rd 25)) V) (hn : n < 6) : jm_C l D ca n_Mo_wordsOf [.ref (rd 0), .int (nI n)] m 0 0 (fun v m' => m' = m ∧ ∃ k, k ≤ 24 ∧ v = some (.int (nI k)) ∧ V n < bB ^ k ∧ ∀ j, j < k → bB ^ j ≤ V n) := by
  refine jm_C_of (cd := cd_Mo_wordsOf) (ini := false) (by decide +kernel) ok_Mo_wordsOf (fun h => by cases h) (Nat.le_of_ble_eq_true rfl) ?_
  intro X hX
  have o0 : jm_ok m (rd 0) 6 := S.ok (Or.inl (by decide))
  have r25 : m.2.2.2.2 (rd 0) 25 = some (rd 25) := S.2.2 25 (Or.inr (Or.inl (by decide))) (by decide)
  have o25 : jm_ok m (rd 25) 51 := S.ok (k := 25) (Or.inr (Or.inl (by decide)))
  have l25 : (m.2.1 (rd 25)).2 = 144 := S.len (k := 25) (Or.inr (Or.inl (by decide)))
  have loop : ∀ (k : Nat), k ≤ 24 → V n < bB ^ k → X 3 [(0, .ref (rd 0)), (1, .int (nI n)), (2, .int (nI k))] [] m 0 0 := by
    intro k
    induction k with
    | zero =>
      intro _ hv
      refine jm_run hX [] 20 ?_
      refine And.intro (fun _ => ?_) (fun g => absurd (show nI 0 ≤ 0 by decide) g)
      exact ⟨Nat.le_refl _, Nat.le_refl _, trivial, rfl, 0, by omega, rfl, hv, fun j hj => absurd hj (by omega)⟩
    | succ k ih =>
      intro hk hv
      have ei : (24 : Int32) * nI n + nI (k + 1) - 1 = nI (24 * n + k) := by
        rw [ix24, show 24 * n + (k + 1) = (24 * n + k) + 1 by omega, ← nI_1]
        exact Int32.add_sub_cancel ..
      have hin : vp_in ((24 : Int32) * nI n + nI (k + 1) - 1) (m.2.1 (rd 25)).2 := by rw [ei]; exact vin_of l25 (by omega) (by decide)
      have e2 : m.2.2.2.1 (rd 25) ((24 : Int32) * nI n + nI (k + 1) - 1).toNatClampNeg = lN (dg (V n) k) := by rw [ei, nI_c (by omega)]; exact (hg n hn).2 k (by omega)
      have hd : dg (V n) k < 268435456 := dg_lt (V n) k
      refine jm_run hX [(3, [0, 1, 2])] 30 ?_
      refine And.intro (fun g => absurd (show nI (k + 1) ≤ 0 from g) (nI_nle (by omega) (by omega))) (fun _ => ?_)
      refine And.intro o0 ⟨some (rd 25), r25, And.intro o25 (And.intro hin ?_)⟩
      have hq : V n / bB ^ k < bB := Nat.div_lt_of_lt_mul (by rw [← Nat.pow_succ]; exact hv)
      refine And.intro (fun g => ?_) (fun g => ?_)
      · have g : lg_cmp (m.2.2.2.1 (rd 25) ((24 : Int32) * nI n + nI (k + 1) - 1).toNatClampNeg) (lN 0) = 0 := g
        rw [e2, lg_cmp_eq, pk_lEQ (by omega) (by decide)] at g
        have hlt : V n < bB ^ k := by
          unfold dg at g
          rw [Nat.mod_eq_of_lt hq] at g
          exact (Nat.div_eq_zero_iff.mp g).resolve_left (Nat.ne_of_gt (bp k))
        have kk := ih (by omega) hlt
        have e1 : nI (k + 1) + (-1) = nI k := nI_prd k
        rw [← e1] at kk
        exact kk
      · have g : ¬ lg_cmp (m.2.2.2.1 (rd 25) ((24 : Int32) * nI n + nI (k + 1) - 1).toNatClampNeg) (lN 0) = 0 := g
        rw [e2, lg_cmp_eq, pk_lEQ (by omega) (by decide)] at g
        have hge : bB ^ k ≤ V n := by
          rcases Nat.lt_or_ge (V n) (bB ^ k) with w | w
          · exact absurd (dg_0 w) g
          · exact w
        exact ⟨Nat.le_refl _, Nat.le_refl _, trivial, rfl, k + 1, hk, rfl, hv, fun j hj => Nat.le_trans (Nat.pow_le_pow_right (by decide) (by omega)) hge⟩
  refine jm_run hX [(3, [0, 1, 2])] 10 ?_
  exact loop 24 (Nat.le_refl _) (hg n hn).1
end RB2
