theorem bb_m {x : Int64} {n k : Nat} (hn : n < bB) (h : x.toInt = (n : Int) - k * 268435456) : x &&& 268435455 = lN n := by
  have h1 : x.toInt = x.toBitVec.toInt := rfl
  have h3 : x = lN x.toBitVec.toNat := by
    apply wb_inj
    rw [wb_tb]; simp
  rw [h1, BitVec.toInt_eq_toNat_cond] at h
  have h2 := x.toBitVec.isLt
  rw [h3]
  have e : lN x.toBitVec.toNat &&& 268435455 = lN (x.toBitVec.toNat % 268435456) := wb_mask (k := 28) h2 (by decide)
  rw [e]
  generalize x.toBitVec.toNat = z at *
  have hn : n < 268435456 := hn
  have : z % 268435456 = n := by
    split at h <;> omega
  rw [this]
/-- one word of a difference -/
theorem bw_w {X Y k : Nat} (h : Y ≤ X) : (lN (dg X k) - lN (dg Y k) - lN (bw X Y k)) &&& 268435455 = lN (dg (X - Y) k) ∧ (0 ≤ lg_cmp (lN (dg X k) - lN (dg Y k) - lN (bw X Y k)) 0 ↔ bw X Y (k + 1) = 0) ∧ bw X Y (k + 1) ≤ 1 := by
  have h1 : dg X k < 268435456 := dg_lt X k
  have h2 : dg Y k < 268435456 := dg_lt Y k
  have hb : bw X Y k ≤ 1 := by
    unfold bw
    split <;> omega
  have e : (lN (dg X k) - lN (dg Y k) - lN (bw X Y k)).toInt = (dg X k : Int) - ((dg Y k + bw X Y k : Nat) : Int) := by
    rw [lz_sub3]; exact lz_sub (by omega) (by omega)
  have hs := bw_s X Y k
  have hd := bw_d h k
  have e0 : (0 : Int64).toInt = 0 := by decide
  rw [lg_cmp_ge, Int64.le_iff_toInt_le, e, e0]
  generalize dg X k = a at *
  generalize dg Y k = b at *
  generalize bw X Y k = c at *
  by_cases w : a < b + c
  · rw [if_pos w] at hs
    have hz : dg (X - Y) k = a + bB - b - c := by rw [hd, Nat.mod_eq_of_lt (show a + 268435456 - b - c < 268435456 by omega)]
    have hz2 : dg (X - Y) k = a + 268435456 - b - c := hz
    refine ⟨bb_m (k := 1) (dg_lt _ _) ?_, ?_, by omega⟩
    · rw [e, hz2]; omega
    · rw [hs]; omega
  · rw [if_neg w] at hs
    have hz : dg (X - Y) k = a - b - c := by rw [hd, show a + bB - b - c = (a - b - c) + bB from (by show a + 268435456 - b - c = (a - b - c) + 268435456; omega), Nat.add_mod_right, Nat.mod_eq_of_lt (show a - b - c < 268435456 by omega)]
    refine ⟨bb_m (k := 0) (dg_lt _ _) ?_, ?_, by omega⟩
    · rw [e, hz]; omega
    · rw [hs]; omega
section RB3
variable {l : Launch} {D : va_G} {ca : Nat → ClassId}
theorem c_Mo_lessen {m : jm_M} {rd V : Nat → Nat} {a b : Nat} (S : MST m rd) (hg : bgv (m.2.2.2.1 (rd 25)) V) (ha : a < 6) (hb : b < 6) (hab : a ≠ b) (hle : V b ≤ V a) : jm_C l D ca n_Mo_lessen [.ref (rd 0), .int (nI a), .int (nI b)] m 0 0 (fun v m' => v = none ∧ m' = uJA m (rd 25) (bup (m.2.2.2.1 (rd 25)) a (V a - V b) 24)) := by
  refine jm_C_of (cd := cd_Mo_lessen) (ini := false) (by decide +kernel) ok_Mo_lessen (fun h => by cases h) (Nat.le_of_ble_eq_true rfl) ?_
  intro X hX
  have o0 : jm_ok m (rd 0) 6 := S.ok (Or.inl (by decide))
  have r25 : m.2.2.2.2 (rd 0) 25 = some (rd 25) := S.2.2 25 (Or.inr (Or.inl (by decide))) (by decide)
  have o25 : jm_ok m (rd 25) 51 := S.ok (k := 25) (Or.inr (Or.inl (by decide)))
  have l25 : (m.2.1 (rd 25)).2 = 144 := S.len (k := 25) (Or.inr (Or.inl (by decide)))
  have loop : ∀ (e k : Nat), k + e = 24 → X 5 [(0, .ref (rd 0)), (1, .int (nI a)), (2, .int (nI b)), (3, .long (lN (bw (V a) (V b) k))), (5, .int (nI k))] [] (uJA m (rd 25) (bup (m.2.2.2.1 (rd 25)) a (V a - V b) k)) 0 0 := by
    intro e
    induction e with
    | zero =>
      intro k hk
      have hk2 : k = 24 := by omega
      subst hk2
      refine jm_run hX [] 20 ?_
      refine And.intro (fun _ => ?_) (fun g => ?_)
      · exact ⟨Nat.le_refl _, Nat.le_refl _, trivial, rfl, rfl⟩
      · exact absurd (nI_le (Nat.le_refl 24) (by decide)) (show ¬ nI 24 ≤ nI 24 from g)
    | succ e ih =>
      intro k hk
      have ea : (24 : Int32) * nI a + nI k = nI (24 * a + k) := ix24 a k
      have eb : (24 : Int32) * nI b + nI k = nI (24 * b + k) := ix24 b k
      have va : bup (m.2.2.2.1 (rd 25)) a (V a - V b) k (24 * a + k) = lN (dg (V a) k) := by
        rw [bup_hi (by omega)]; exact (hg a ha).2 k (by omega)
      have vb : bup (m.2.2.2.1 (rd 25)) a (V a - V b) k (24 * b + k) = lN (dg (V b) k) := by
        rw [bup_hi (by omega)]; exact (hg b hb).2 k (by omega)
      have hia : vp_in ((24 : Int32) * nI a + nI k) (m.2.1 (rd 25)).2 := by rw [ea]; exact vin_of l25 (by omega) (by decide)
      have hib : vp_in ((24 : Int32) * nI b + nI k) (m.2.1 (rd 25)).2 := by rw [eb]; exact vin_of l25 (by omega) (by decide)
      obtain ⟨w1, w2, w3⟩ := bw_w (k := k) hle
      have hvv : va_up m.2.2.2.1 (rd 25) (bup (m.2.2.2.1 (rd 25)) a (V a - V b) k) (rd 25) ((24 : Int32) * nI a + nI k).toNatClampNeg - va_up m.2.2.2.1 (rd 25) (bup (m.2.2.2.1 (rd 25)) a (V a - V b) k) (rd 25) ((24 : Int32) * nI b + nI k).toNatClampNeg - lN (bw (V a) (V b) k) = lN (dg (V a) k) - lN (dg (V b) k) - lN (bw (V a) (V b) k) := by
        rw [ea, eb, nI_c (by omega), nI_c (by omega), va_up_self, va, vb]
      have k53 : X 53 [(0, .ref (rd 0)), (1, .int (nI a)), (2, .int (nI b)), (5, .int (nI k)), (6, .long (lN (dg (V a) k) - lN (dg (V b) k) - lN (bw (V a) (V b) k)))] [.long (lN (bw (V a) (V b) (k + 1)))] (uJA m (rd 25) (bup (m.2.2.2.1 (rd 25)) a (V a - V b) k)) 0 0 := by
        refine jm_run hX [(5, [0, 1, 2, 3, 5])] 30 ?_
        refine And.intro o0 ⟨some (rd 25), r25, And.intro o25 (And.intro hia ?_)⟩
        have kk := ih (k + 1) (by omega)
        rw [← bup_s, ← uJ_uJA, ← nI_1, ← w1] at kk
        have e2 : ((24 : Int32) * nI a + nI k).toNatClampNeg = 24 * a + k := by rw [ea, nI_c (by omega)]
        show X 5 [(0, .ref (rd 0)), (1, .int (nI a)), (2, .int (nI b)), (3, .long (lN (bw (V a) (V b) (k + 1)))), (5, .int (nI k + 1))] [] (uJ (uJA m (rd 25) (bup (m.2.2.2.1 (rd 25)) a (V a - V b) k)) (rd 25) ((24 : Int32) * nI a + nI k).toNatClampNeg ((lN (dg (V a) k) - lN (dg (V b) k) - lN (bw (V a) (V b) k)) &&& 268435455)) 0 0
        rw [e2]
        exact kk
      refine jm_run hX [(53, [0, 1, 2, 5, 6])] 40 ?_
      refine And.intro (fun g => absurd (show nI 24 ≤ nI k from g) (nI_ge (by omega) (by omega))) (fun _ => ?_)
      refine And.intro o0 ⟨some (rd 25), r25, And.intro o25 (And.intro hia (And.intro o0 ⟨some (rd 25), r25, And.intro o25 (And.intro hib ?_)⟩))⟩
      rw [← hvv] at k53 w2
      refine And.intro (fun g => ?_) (fun g => ?_)
      · rw [w2.mp g] at k53; exact k53
      · have : bw (V a) (V b) (k + 1) = 1 := by
          have h9 : ¬ bw (V a) (V b) (k + 1) = 0 := fun q => g (w2.mpr q)
          omega
        rw [this] at k53; exact k53
  refine jm_run hX [(5, [0, 1, 2, 3, 5])] 10 ?_
  have := loop 24 0 (by omega)
  rw [bup_0, uJA_id, bw_0] at this
  exact this
/-- the first u words, twice and one more -/
theorem c_Mo_growUsed {m : jm_M} {rd V : Nat → Nat} {u c : Nat} (S : MST m rd) (hg : bgv (m.2.2.2.1 (rd 25)) V) (hu : m.2.2.1 (rd 0) 28 = nI u) (hu2 : u ≤ 24) (hc : c ≤ 1) (hV : V 2 * 2 + c < bB ^ u) : jm_C l D ca n_Mo_growUsed [.ref (rd 0), .long (lN c)] m 0 0 (fun v m' => v = none ∧ m' = uJA m (rd 25) (bup (m.2.2.2.1 (rd 25)) 2 (V 2 * 2 + c) u)) := by
  refine jm_C_of (cd := cd_Mo_growUsed) (ini := false) (by decide +kernel) ok_Mo_growUsed (fun h => by cases h) (Nat.le_of_ble_eq_true rfl) ?_
  intro X hX
  have o0 : jm_ok m (rd 0) 6 := S.ok (Or.inl (by decide))
  have r25 : m.2.2.2.2 (rd 0) 25 = some (rd 25) := S.2.2 25 (Or.inr (Or.inl (by decide))) (by decide)
  have o25 : jm_ok m (rd 25) 51 := S.ok (k := 25) (Or.inr (Or.inl (by decide)))
  have l25 : (m.2.1 (rd 25)).2 = 144 := S.len (k := 25) (Or.inr (Or.inl (by decide)))
  have loop : ∀ (e k : Nat), k + e = u → X 5 [(0, .ref (rd 0)), (3, .long (lN (cs (V 2) 2 c k))), (5, .int (nI k))] [] (uJA m (rd 25) (bup (m.2.2.2.1 (rd 25)) 2 (V 2 * 2 + c) k)) 0 0 := by
    intro e
    induction e with
    | zero =>
      intro k hk
      have hk2 : k = u := by omega
      subst hk2
      refine jm_run hX [] 20 ?_
      refine And.intro o0 (And.intro (fun _ => ?_) (fun g => ?_))
      · exact ⟨Nat.le_refl _, Nat.le_refl _, trivial, rfl, rfl⟩
      · have g : ¬ m.2.2.1 (rd 0) 28 ≤ nI k := g
        rw [hu] at g
        exact absurd (nI_le (Nat.le_refl k) (by omega)) g
    | succ e ih =>
      intro k hk
      refine jm_run hX [(5, [0, 3, 5])] 40 ?_
      refine And.intro o0 (And.intro (fun g => ?_) (fun _ => ?_))
      · have g : m.2.2.1 (rd 0) 28 ≤ nI k := g
        rw [hu] at g
        exact absurd g (nI_ge (by omega) (by omega))
      have ei : (48 : Int32) + nI k = nI (24 * 2 + k) := nI_add 48 k
      have ev : bup (m.2.2.2.1 (rd 25)) 2 (V 2 * 2 + c) k (24 * 2 + k) = lN (dg (V 2) k) := by
        rw [bup_hi (by omega)]; exact (hg 2 (by decide)).2 k (by omega)
      have hcs : cs (V 2) 2 c k ≤ 2 := cs_lt (by decide) (by omega)
      have hd : dg (V 2) k < 268435456 := dg_lt (V 2) k
      have hv : dg (V 2) k * 2 + cs (V 2) 2 c k < 2 ^ 63 := by omega
      have hvv : va_up m.2.2.2.1 (rd 25) (bup (m.2.2.2.1 (rd 25)) 2 (V 2 * 2 + c) k) (rd 25) ((48 : Int32) + nI k).toNatClampNeg * lN 2 + lN (cs (V 2) 2 c k) = lN (dg (V 2) k * 2 + cs (V 2) 2 c k) := by
        rw [ei, nI_c (by omega), va_up_self, ev, lN_mul, lN_add]
      have hin : vp_in ((48 : Int32) + nI k) (m.2.1 (rd 25)).2 := by rw [ei]; exact vin_of l25 (by omega) (by decide)
      refine And.intro o0 ⟨some (rd 25), r25, And.intro o25 (And.intro hin (And.intro o0 ⟨some (rd 25), r25, And.intro o25 (And.intro hin ?_)⟩))⟩
      have kk := ih (k + 1) (by omega)
      rw [← bup_s, ← uJ_uJA, ← nI_1, ← cs_s, ← cs_d, ← bb_s hv, ← bb_a hv, ← hvv] at kk
      have e2 : ((48 : Int32) + nI k).toNatClampNeg = 24 * 2 + k := by rw [ei, nI_c (by omega)]
      show X 5 [(0, .ref (rd 0)), (3, .long ((va_up m.2.2.2.1 (rd 25) (bup (m.2.2.2.1 (rd 25)) 2 (V 2 * 2 + c) k) (rd 25) ((48 : Int32) + nI k).toNatClampNeg * lN 2 + lN (cs (V 2) 2 c k)) >>> ((28 : Int32).toInt64 &&& 63))), (5, .int (nI k + 1))] [] (uJ (uJA m (rd 25) (bup (m.2.2.2.1 (rd 25)) 2 (V 2 * 2 + c) k)) (rd 25) ((48 : Int32) + nI k).toNatClampNeg ((va_up m.2.2.2.1 (rd 25) (bup (m.2.2.2.1 (rd 25)) 2 (V 2 * 2 + c) k) (rd 25) ((48 : Int32) + nI k).toNatClampNeg * lN 2 + lN (cs (V 2) 2 c k)) &&& 268435455)) 0 0
      rw [e2] at kk ⊢
      exact kk
  refine jm_run hX [(5, [0, 3, 5])] 10 ?_
  have := loop u 0 (by omega)
  rw [bup_0, uJA_id, cs_0] at this
  exact this
theorem c_Mo_isLeftLess {m : jm_M} {rd V : Nat → Nat} {u : Nat} (S : MST m rd) (hg : bgv (m.2.2.2.1 (rd 25)) V) (hu : m.2.2.1 (rd 0) 28 = nI u) (hu2 : u ≤ 24) (h2 : V 2 < bB ^ u) (h1 : V 1 < bB ^ u) : jm_C l D ca n_Mo_isLeftLess [.ref (rd 0)] m 0 0 (fun v m' => m' = m ∧ v = some (.int (if V 2 < V 1 then 1 else 0))) := by
  refine jm_C_of (cd := cd_Mo_isLeftLess) (ini := false) (by decide +kernel) ok_Mo_isLeftLess (fun h => by cases h) (Nat.le_of_ble_eq_true rfl) ?_
  intro X hX
  have o0 : jm_ok m (rd 0) 6 := S.ok (Or.inl (by decide))
  have r25 : m.2.2.2.2 (rd 0) 25 = some (rd 25) := S.2.2 25 (Or.inr (Or.inl (by decide))) (by decide)
  have o25 : jm_ok m (rd 25) 51 := S.ok (k := 25) (Or.inr (Or.inl (by decide)))
  have l25 : (m.2.1 (rd 25)).2 = 144 := S.len (k := 25) (Or.inr (Or.inl (by decide)))
  have loop : ∀ (k : Nat), k ≤ u → (∀ j, k ≤ j → j < u → dg (V 2) j = dg (V 1) j) → X 7 [(0, .ref (rd 0)), (1, .int (nI k + (-1)))] [] m 0 0 := by
    intro k
    induction k with
    | zero =>
      intro _ he
      have e : V 2 = V 1 := dg_eq h2 h1 (fun j hj => he j (by omega) hj)
      refine jm_run hX [] 20 ?_
      refine And.intro (fun _ => ?_) (fun g => absurd (show (nI 0 + (-1) : Int32) < 0 by decide) g)
      exact ⟨Nat.le_refl _, Nat.le_refl _, Or.inl rfl, rfl, by rw [if_neg (by omega)]⟩
    | succ k ih =>
      intro hk he
      have e1 : nI (k + 1) + (-1) = nI k := nI_prd k
      rw [e1]
      have ea : (48 : Int32) + nI k = nI (24 * 2 + k) := nI_add 48 k
      have eb : (24 : Int32) + nI k = nI (24 * 1 + k) := nI_add 24 k
      have hda : dg (V 2) k < 268435456 := dg_lt (V 2) k
      have hdb : dg (V 1) k < 268435456 := dg_lt (V 1) k
      have hia : vp_in ((48 : Int32) + nI k) (m.2.1 (rd 25)).2 := by rw [ea]; exact vin_of l25 (by omega) (by decide)
      have hib : vp_in ((24 : Int32) + nI k) (m.2.1 (rd 25)).2 := by rw [eb]; exact vin_of l25 (by omega) (by decide)
      have e2 : m.2.2.2.1 (rd 25) ((48 : Int32) + nI k).toNatClampNeg = lN (dg (V 2) k) := by rw [ea, nI_c (by omega)]; exact (hg 2 (by decide)).2 k (by omega)
      have e3 : m.2.2.2.1 (rd 25) ((24 : Int32) + nI k).toNatClampNeg = lN (dg (V 1) k) := by rw [eb, nI_c (by omega)]; exact (hg 1 (by decide)).2 k (by omega)
      refine jm_run hX [(7, [0, 1])] 60 ?_
      refine And.intro (fun g => absurd (show nI k < 0 from g) (nI_pos (by omega))) (fun _ => ?_)
      refine And.intro o0 ⟨some (rd 25), r25, And.intro o25 (And.intro hia (And.intro o0 ⟨some (rd 25), r25, And.intro o25 (And.intro hib ?_)⟩))⟩
      refine And.intro (fun g => ?_) (fun g => ?_)
      · have g : lg_cmp (m.2.2.2.1 (rd 25) ((48 : Int32) + nI k).toNatClampNeg) (m.2.2.2.1 (rd 25) ((24 : Int32) + nI k).toNatClampNeg) = 0 := g
        rw [e2, e3, lg_cmp_eq, pk_lEQ (by omega) (by omega)] at g
        refine ih (by omega) (fun j h1 h2 => ?_)
        rcases Nat.lt_or_ge k j with w | w
        · exact he j (by omega) h2
        · rw [show j = k by omega]; exact g
      · have g : ¬ lg_cmp (m.2.2.2.1 (rd 25) ((48 : Int32) + nI k).toNatClampNeg) (m.2.2.2.1 (rd 25) ((24 : Int32) + nI k).toNatClampNeg) = 0 := g
        rw [e2, e3, lg_cmp_eq, pk_lEQ (by omega) (by omega)] at g
        have hcmp := dg_cmp h2 h1 (show k < u by omega) (fun j h1 h2 => he j (by omega) h2) g
        refine And.intro o0 ⟨some (rd 25), r25, And.intro o25 (And.intro hia (And.intro o0 ⟨some (rd 25), r25, And.intro o25 (And.intro hib ?_)⟩))⟩
        refine And.intro (fun g2 => ?_) (fun g2 => ?_)
        · have g2 : 0 ≤ lg_cmp (m.2.2.2.1 (rd 25) ((48 : Int32) + nI k).toNatClampNeg) (m.2.2.2.1 (rd 25) ((24 : Int32) + nI k).toNatClampNeg) := g2
          rw [e2, e3, lg_cmp_ge, pk_lLE (by omega) (by omega)] at g2
          exact ⟨Nat.le_refl _, Nat.le_refl _, Or.inl rfl, rfl, by rw [if_neg (fun q => by have := hcmp.mp q; omega)]⟩
        · have g2 : ¬ 0 ≤ lg_cmp (m.2.2.2.1 (rd 25) ((48 : Int32) + nI k).toNatClampNeg) (m.2.2.2.1 (rd 25) ((24 : Int32) + nI k).toNatClampNeg) := g2
          rw [e2, e3, lg_cmp_ge, pk_lLE (by omega) (by omega)] at g2
          exact ⟨Nat.le_refl _, Nat.le_refl _, Or.inr rfl, rfl, by rw [if_pos (hcmp.mpr (by omega))]⟩
  refine jm_run hX [(7, [0, 1])] 10 ?_
  refine And.intro o0 ?_
  have kk := loop u (Nat.le_refl _) (fun j h1 h2 => absurd h1 (by omega))
  rw [← hu] at kk
  rw [← nI_m1] at kk
  exact kk
theorem c_Mo_lessenLeft {m : jm_M} {rd V : Nat → Nat} {u : Nat} (S : MST m rd) (hg : bgv (m.2.2.2.1 (rd 25)) V) (hu : m.2.2.1 (rd 0) 28 = nI u) (hu2 : u ≤ 24) (hle : V 1 ≤ V 2) : jm_C l D ca n_Mo_lessenLeft [.ref (rd 0)] m 0 0 (fun v m' => v = none ∧ m' = uJA m (rd 25) (bup (m.2.2.2.1 (rd 25)) 2 (V 2 - V 1) u)) := by
  refine jm_C_of (cd := cd_Mo_lessenLeft) (ini := false) (by decide +kernel) ok_Mo_lessenLeft (fun h => by cases h) (Nat.le_of_ble_eq_true rfl) ?_
  intro X hX
  have o0 : jm_ok m (rd 0) 6 := S.ok (Or.inl (by decide))
  have r25 : m.2.2.2.2 (rd 0) 25 = some (rd 25) := S.2.2 25 (Or.inr (Or.inl (by decide))) (by decide)
  have o25 : jm_ok m (rd 25) 51 := S.ok (k := 25) (Or.inr (Or.inl (by decide)))
  have l25 : (m.2.1 (rd 25)).2 = 144 := S.len (k := 25) (Or.inr (Or.inl (by decide)))
  have loop : ∀ (e k : Nat), k + e = u → X 4 [(0, .ref (rd 0)), (1, .long (lN (bw (V 2) (V 1) k))), (3, .int (nI k))] [] (uJA m (rd 25) (bup (m.2.2.2.1 (rd 25)) 2 (V 2 - V 1) k)) 0 0 := by
    intro e
    induction e with
    | zero =>
      intro k hk
      have hk2 : k = u := by omega
      subst hk2
      refine jm_run hX [] 20 ?_
      refine And.intro o0 (And.intro (fun _ => ?_) (fun g => ?_))
      · exact ⟨Nat.le_refl _, Nat.le_refl _, trivial, rfl, rfl⟩
      · have g : ¬ m.2.2.1 (rd 0) 28 ≤ nI k := g
        rw [hu] at g
        exact absurd (nI_le (Nat.le_refl k) (by omega)) g
    | succ e ih =>
      intro k hk
      have ea : (48 : Int32) + nI k = nI (24 * 2 + k) := nI_add 48 k
      have eb : (24 : Int32) + nI k = nI (24 * 1 + k) := nI_add 24 k
      have va : bup (m.2.2.2.1 (rd 25)) 2 (V 2 - V 1) k (24 * 2 + k) = lN (dg (V 2) k) := by
        rw [bup_hi (by omega)]; exact (hg 2 (by decide)).2 k (by omega)
      have vb : bup (m.2.2.2.1 (rd 25)) 2 (V 2 - V 1) k (24 * 1 + k) = lN (dg (V 1) k) := by
        rw [bup_hi (by omega)]; exact (hg 1 (by decide)).2 k (by omega)
      have hia : vp_in ((48 : Int32) + nI k) (m.2.1 (rd 25)).2 := by rw [ea]; exact vin_of l25 (by omega) (by decide)
      have hib : vp_in ((24 : Int32) + nI k) (m.2.1 (rd 25)).2 := by rw [eb]; exact vin_of l25 (by omega) (by decide)
      obtain ⟨w1, w2, w3⟩ := bw_w (k := k) hle
      have hvv : va_up m.2.2.2.1 (rd 25) (bup (m.2.2.2.1 (rd 25)) 2 (V 2 - V 1) k) (rd 25) ((48 : Int32) + nI k).toNatClampNeg - va_up m.2.2.2.1 (rd 25) (bup (m.2.2.2.1 (rd 25)) 2 (V 2 - V 1) k) (rd 25) ((24 : Int32) + nI k).toNatClampNeg - lN (bw (V 2) (V 1) k) = lN (dg (V 2) k) - lN (dg (V 1) k) - lN (bw (V 2) (V 1) k) := by
        rw [ea, eb, nI_c (by omega), nI_c (by omega), va_up_self, va, vb]
      have k47 : X 47 [(0, .ref (rd 0)), (3, .int (nI k)), (4, .long (lN (dg (V 2) k) - lN (dg (V 1) k) - lN (bw (V 2) (V 1) k)))] [.long (lN (bw (V 2) (V 1) (k + 1)))] (uJA m (rd 25) (bup (m.2.2.2.1 (rd 25)) 2 (V 2 - V 1) k)) 0 0 := by
        refine jm_run hX [(4, [0, 1, 3])] 30 ?_
        refine And.intro o0 ⟨some (rd 25), r25, And.intro o25 (And.intro hia ?_)⟩
        have kk := ih (k + 1) (by omega)
        rw [← bup_s, ← uJ_uJA, ← nI_1, ← w1] at kk
        have e2 : ((48 : Int32) + nI k).toNatClampNeg = 24 * 2 + k := by rw [ea, nI_c (by omega)]
        show X 4 [(0, .ref (rd 0)), (1, .long (lN (bw (V 2) (V 1) (k + 1)))), (3, .int (nI k + 1))] [] (uJ (uJA m (rd 25) (bup (m.2.2.2.1 (rd 25)) 2 (V 2 - V 1) k)) (rd 25) ((48 : Int32) + nI k).toNatClampNeg ((lN (dg (V 2) k) - lN (dg (V 1) k) - lN (bw (V 2) (V 1) k)) &&& 268435455)) 0 0
        rw [e2]
        exact kk
      refine jm_run hX [(47, [0, 3, 4])] 40 ?_
      refine And.intro o0 (And.intro (fun g => ?_) (fun _ => ?_))
      · have g : m.2.2.1 (rd 0) 28 ≤ nI k := g
        rw [hu] at g
        exact absurd g (nI_ge (by omega) (by omega))
      refine And.intro o0 ⟨some (rd 25), r25, And.intro o25 (And.intro hia (And.intro o0 ⟨some (rd 25), r25, And.intro o25 (And.intro hib ?_)⟩))⟩
      rw [← hvv] at k47 w2
      refine And.intro (fun g => ?_) (fun g => ?_)
      · rw [w2.mp g] at k47; exact k47
      · have : bw (V 2) (V 1) (k + 1) = 1 := by
          have h9 : ¬ bw (V 2) (V 1) (k + 1) = 0 := fun q => g (w2.mpr q)
          omega
        rw [this] at k47; exact k47
  refine jm_run hX [(4, [0, 1, 3])] 10 ?_
  have := loop u 0 (by omega)
  rw [bup_0, uJA_id, bw_0] at this
  exact this
end RB3
