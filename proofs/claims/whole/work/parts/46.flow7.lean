theorem bz_cg {a : Nat → Nat → Int} {n rs k r c r' c' : Nat} {V : Nat → Nat} (h : bz_E a n rs k r c V) (e : ∀ i j, i < n → k < j → j < n + rs → ((i ≠ k ∧ (i < r' ∨ (i = r' ∧ j < c'))) ↔ (i ≠ k ∧ (i < r ∨ (i = r ∧ j < c))))) : bz_E a n rs k r' c' V :=
  ⟨h.1, h.2.1, fun i hi j hj hjn => by rw [h.2.2 i hi j hj hjn, ite_iff (e i j hi hj hjn)]⟩
theorem bz_put {a : Nat → Nat → Int} {n rs k r c x : Nat} {V V' : Nat → Nat} (hn : n ≤ 9) (hrs : rs ≤ 3) (h : bz_E a n rs k r c V) (hs : sameE (va_up V (12 * r + c) x) V') (hr : r < n) (hrk : r ≠ k) (hc : k < c) (hcn : c < n + rs) (hx : (x : Int) = bz_g n r c * bz_v a (k + 1) r c) : bz_E a n rs k r (c + 1) V' := by
  have hs' : ∀ i, i < 109 → V' i = va_up V (12 * r + c) x i := fun i hi => hs i (by omega) (by omega) (by omega) (by omega) (by omega) (by omega)
  refine ⟨?_, fun i hi => ?_, fun i hi j hj hjn => ?_⟩
  · rw [hs' _ (by omega), va_up_ne _ _ (by omega)]; exact h.1
  · rw [hs' _ (by omega), va_up_ne _ _ (by omega)]; exact h.2.1 i hi
  · rw [hs' _ (by omega)]
    by_cases e : i = r ∧ j = c
    · obtain ⟨rfl, rfl⟩ := e
      rw [va_up_self, if_pos ⟨hrk, Or.inr ⟨rfl, by omega⟩⟩]; exact hx
    · rw [va_up_ne _ _ (by omega), h.2.2 i hi j hj hjn]
      exact congrArg (fun z => bz_g n i j * z) (ite_iff (by omega))
section FL7
variable {l : Launch} {D : va_G} {ca : Nat → ClassId}
set_option maxRecDepth 4000 in
theorem c_Fl_eliminate {m0 : jm_M} {ad V0 : Nat → Nat} {a : Nat → Nat → Int} {n rs B : Nat} (S : SST m0 ad) (hV0 : WV m0 ad V0) (hsz : m0.2.2.1 (ad 2) 3 = nI n) (hn : n ≤ 9) (hrs1 : 1 ≤ rs) (hrs : rs ≤ 3) (hG : mx_Good a n) (hB : bz_B a n rs B) (hBB : 2 * (B * B) < wB ^ 12) (hin : ∀ i, i < n → ∀ j, j < n + rs → (V0 (12 * i + j) : Int) = bz_g n i j * a i j) :
    jm_C l D ca n_Fl_eliminate [.ref (ad 2), .int (nI rs)] m0 0 0 (fun v m' => v = none ∧ FRW ad m0 m' ∧ ∃ V', WV m' ad V' ∧ (∀ i, 117 ≤ i → i < 132 → V' i = V0 i) ∧ (V' 108 : Int) = ds_d a n ∧ ∀ i, i < n → ∀ j, n ≤ j → j < n + rs → (V' (12 * i + j) : Int) = ds_C a n i j) := by
  refine jm_C_of (cd := cd_Fl_eliminate) (ini := false) (by decide +kernel) ok_Fl_eliminate (fun h => by cases h) (Nat.le_of_ble_eq_true rfl) ?_
  intro X hX
  have o2 : ∀ {m' : jm_M}, SST m' ad → jm_ok m' (ad 2) 1 := fun S => S.ok 2 (Or.inl (by decide))
  have rb : ∀ {m' : jm_M}, SST m' ad → m'.2.2.2.2 (ad 2) 1 = some (ad 316) := fun S => S.2.2.1 (2, 1, 316) (by decide)
  have hBlt : B < wB ^ 12 := by
    rcases Nat.eq_zero_or_pos B with q | q
    · rw [q]; exact Nat.pow_pos (by decide)
    · have : B * 1 ≤ B * B := Nat.mul_le_mul_left _ q
      omega
  have piv : ∀ (e k : Nat) (m : jm_M) (V : Nat → Nat), k + e = n → FRW ad m0 m → WV m ad V → (∀ i, 117 ≤ i → i < 132 → V i = V0 i) → bz_E a n rs k 0 0 V → X 10 [(0, .ref (ad 2)), (1, .int (nI rs)), (2, .int (nI k))] [] m 0 0 := by
    intro e
    induction e with
    | zero =>
      intro k m V hk hR hW ht hE
      have Sm := hR.S S
      have hs : m.2.2.1 (ad 2) 3 = nI n := by rw [hR.I S (by decide)]; exact hsz
      have ekn : k = n := by omega
      subst ekn
      refine jm_run hX [] 20 ?_
      refine And.intro (o2 Sm) (And.intro (fun _ => ?_) (fun g => ?_))
      · refine ⟨Nat.le_refl _, Nat.le_refl _, trivial, rfl, hR, V, hW, ht, hE.1, fun i hi j hj hjn => ?_⟩
        have ev : bz_v a k i j = ds_C a k i j := if_pos hi
        have eg : bz_g k i j = 1 := if_pos (Or.inr hj)
        rcases Nat.lt_or_ge k j with q | q
        · rw [hE.2.2 i hi j q hjn, if_neg (by omega), eg, ev, Int.one_mul]
        · have : j = k := by omega
          subst this
          rw [hE.2.1 i hi, eg, ev, Int.one_mul]
      · have g : ¬ m.2.2.1 (ad 2) 3 ≤ nI k := g
        rw [hs] at g
        exact absurd (nI_le (by omega) (by omega)) g
    | succ e ih =>
      intro k m V hk hR hW ht hE
      have hkn : k < n := by omega
      have hI := mx_Inv_all hG k (by omega)
      -- the rows
      have rows : ∀ (f r : Nat) (m : jm_M) (V : Nat → Nat), r + f = n → FRW ad m0 m → WV m ad V → (∀ i, 117 ≤ i → i < 132 → V i = V0 i) → bz_E a n rs k r (k + 1) V → X 20 [(0, .ref (ad 2)), (1, .int (nI rs)), (2, .int (nI k)), (3, .int (nI r))] [] m 0 0 := by
        intro f
        induction f with
        | zero =>
          intro r m V hr hR hW ht hE
          have Sm := hR.S S
          have hs : m.2.2.1 (ad 2) 3 = nI n := by rw [hR.I S (by decide)]; exact hsz
          have key1 := c_Fl_cell (l := l) (D := D) (ca := ca) (r := k) (c := k) Sm (by omega)
          have key2 := w_b2 (l := l) (D := D) (ca := ca) (i := 108) (j := 12 * k + k) Sm hW (by decide) (by omega)
          refine jm_run hX [(10, [0, 1, 2])] 30 ?_
          refine And.intro (o2 Sm) (And.intro (fun _ => ?_) (fun g => ?_))
          · refine And.intro (o2 Sm) ⟨some (ad 316), rb Sm, ?_⟩
            refine And.intro (o2 Sm) (And.intro (Nat.le_of_ble_eq_true rfl) (And.intro (Nat.le_of_ble_eq_true rfl) ⟨0, 0, _, Nat.le_refl _, Nat.le_refl _, key1, fun v m' hq => ?_⟩))
            obtain ⟨ee, rfl⟩ := hq
            have ee := ee.symm
            subst ee
            refine And.intro (Sm.wh 108 (by decide)).1 (And.intro (Nat.le_of_ble_eq_true rfl) (And.intro (Nat.le_of_ble_eq_true rfl) ⟨0, 0, _, Nat.le_refl _, Nat.le_refl _, key2, fun v m1 hq => ?_⟩))
            obtain ⟨rfl, hR1, hW1⟩ := hq
            have ern : r = n := by omega
            subst ern
            have kk := ih (k + 1) m1 _ (by omega) (hR.tr hR1) hW1 (fun i h1 h2 => by rw [va_up_ne _ _ (by omega)]; exact ht i h1 h2) (bz_next hkn hE (va_up_self _ _ _) (fun i hi => va_up_ne _ _ (by omega)) hn hrs (by omega))
            rw [← nI_1] at kk
            exact kk
          · have g : ¬ m.2.2.1 (ad 2) 3 ≤ nI r := g
            rw [hs] at g
            exact absurd (nI_le (by omega) (by omega)) g
        | succ f ihf =>
          intro r m V hr hR hW ht hE
          have hrn : r < n := by omega
          have Sm := hR.S S
          have hs : m.2.2.1 (ad 2) 3 = nI n := by rw [hR.I S (by decide)]; exact hsz
          have join : ∀ (m : jm_M) (V : Nat → Nat), FRW ad m0 m → WV m ad V → (∀ i, 117 ≤ i → i < 132 → V i = V0 i) → bz_E a n rs k (r + 1) (k + 1) V → X 66 [(0, .ref (ad 2)), (1, .int (nI rs)), (2, .int (nI k)), (3, .int (nI r))] [] m 0 0 := by
            intro m V hR hW ht hE
            have kk := ihf (r + 1) m V (by omega) hR hW ht hE
            rw [← nI_1] at kk
            refine jm_run hX [(20, [0, 1, 2, 3])] 10 ?_
            exact kk
          have cols : r ≠ k → ∀ (g c : Nat) (m : jm_M) (V : Nat → Nat), c + g = n + rs → k < c → FRW ad m0 m → WV m ad V → (∀ i, 117 ≤ i → i < 132 → V i = V0 i) → bz_E a n rs k r c V → X 41 [(0, .ref (ad 2)), (1, .int (nI rs)), (2, .int (nI k)), (3, .int (nI r)), (4, .int (nI c))] [] m 0 0 := by
            intro hrk g
            induction g with
            | zero =>
              intro c m V hc hkc hR hW ht hE
              have Sm := hR.S S
              have hs : m.2.2.1 (ad 2) 3 = nI n := by rw [hR.I S (by decide)]; exact hsz
              refine jm_run hX [(66, [0, 1, 2, 3])] 20 ?_
              refine And.intro (o2 Sm) (And.intro (fun _ => ?_) (fun g => ?_))
              · exact join m V hR hW ht (bz_cg hE (fun i j h1 h2 h3 => by omega))
              · have g : ¬ m.2.2.1 (ad 2) 3 + nI rs ≤ nI c := g
                rw [hs, nI_add] at g
                exact absurd (nI_le (by omega) (by omega)) g
            | succ g ihg =>
              intro c m V hc hkc hR hW ht hE
              have Sm := hR.S S
              have hs : m.2.2.1 (ad 2) 3 = nI n := by rw [hR.I S (by decide)]; exact hsz
              have hcn : c < n + rs := by omega
              obtain ⟨c1, c2, c3⟩ := bz_cell hG hE hkn hrn hrk hkc hcn
              -- sizes
              have sz : ∀ i j, i < n → k ≤ j → j < n + rs → (j = k ∨ ¬ (i ≠ k ∧ (i < r ∨ (i = r ∧ j < c)))) → V (12 * i + j) ≤ B := by
                intro i j hi hj hjn hno
                have hv := hB.2 k (by omega) i hi j hj hjn
                have e1 : (V (12 * i + j) : Int) = bz_g n i j * bz_v a k i j := by
                  rcases Nat.lt_or_ge k j with q | q
                  · rw [hE.2.2 i hi j q hjn, if_neg (by omega)]
                  · have : j = k := by omega
                    subst this
                    exact hE.2.1 i hi
                have e2 := congrArg Int.natAbs e1
                rw [Int.natAbs_mul] at e2
                have e3 : (bz_g n i j).natAbs = 1 := by unfold bz_g; split <;> rfl
                rw [e3, Nat.one_mul] at e2
                omega
              have b1 := sz k k hkn (Nat.le_refl k) (by omega) (Or.inl rfl)
              have b2 := sz r c hrn (by omega) hcn (Or.inr (by omega))
              have b3 := sz r k hrn (Nat.le_refl k) (by omega) (Or.inl rfl)
              have b4 := sz k c hkn (by omega) hcn (Or.inr (fun q => q.1 rfl))
              have b5 : V 108 ≤ B := by
                have h1 := hB.1 k (by omega)
                have h2 := congrArg Int.natAbs hE.1
                omega
              have m1 := Nat.mul_le_mul b1 b2
              have m2 := Nat.mul_le_mul b3 b4
              have key := c_Fl_eliminateCell (l := l) (D := D) (ca := ca) (r := r) (c := c) (p := k) Sm hW (by omega) (by omega) (by omega) hrk (by omega) c1 (by omega) (by omega) c2
              refine jm_run hX [(41, [0, 1, 2, 3, 4])] 20 ?_
              refine And.intro (o2 Sm) (And.intro (fun g => ?_) (fun _ => ?_))
              · have g : m.2.2.1 (ad 2) 3 + nI rs ≤ nI c := g
                rw [hs, nI_add] at g
                exact absurd g (nI_ge (by omega) (by omega))
              refine And.intro (o2 Sm) (And.intro (Nat.le_of_ble_eq_true rfl) (And.intro (Nat.le_of_ble_eq_true rfl) ⟨0, 0, _, Nat.le_refl _, Nat.le_refl _, key, fun v m3 hq => ?_⟩))
              obtain ⟨rfl, hR3, V3, hW3, hs3⟩ := hq
              have kk := ihg (c + 1) m3 V3 (by omega) (by omega) (hR.tr hR3) hW3 (fun i h1 h2 => by rw [hs3 i h2 (by omega) (by omega) (by omega) (by omega) (by omega), va_up_ne _ _ (by omega)]; exact ht i h1 h2) (bz_put hn hrs hE hs3 hrn hrk hkc hcn c3)
              rw [← nI_1] at kk
              exact kk
          refine jm_run hX [(66, [0, 1, 2, 3]), (41, [0, 1, 2, 3, 4])] 20 ?_
          refine And.intro (o2 Sm) (And.intro (fun g => ?_) (fun _ => ?_))
          · have g : m.2.2.1 (ad 2) 3 ≤ nI r := g
            rw [hs] at g
            exact absurd g (nI_ge (by omega) (by omega))
          refine And.intro (fun g => ?_) (fun g => ?_)
          · have g : nI r = nI k := g
            have e : r = k := (nI_eq (by omega) (by omega)).mp g
            exact join m V hR hW ht (bz_cg hE (fun i j h1 h2 h3 => by omega))
          · have g : ¬ nI r = nI k := g
            have hrk : r ≠ k := fun e => g (by rw [e])
            have kk := cols hrk (n + rs - (k + 1)) (k + 1) m V (by omega) (by omega) hR hW ht hE
            rw [← nI_1] at kk
            exact kk
      have Sm := hR.S S
      have hs : m.2.2.1 (ad 2) 3 = nI n := by rw [hR.I S (by decide)]; exact hsz
      refine jm_run hX [(20, [0, 1, 2, 3])] 20 ?_
      refine And.intro (o2 Sm) (And.intro (fun g => ?_) (fun _ => ?_))
      · have g : m.2.2.1 (ad 2) 3 ≤ nI k := g
        rw [hs] at g
        exact absurd g (nI_ge (by omega) (by omega))
      exact rows n 0 m V (by omega) hR hW ht (bz_cg hE (fun i j h1 h2 h3 => by omega))
  have key := w_b1 (l := l) (D := D) (ca := ca) (i := 108) (x := 1) S hV0 (by decide) (by decide)
  refine jm_run hX [(10, [0, 1, 2])] 20 ?_
  refine And.intro (o2 S) ⟨some (ad 316), rb S, ?_⟩
  refine And.intro (S.wh 108 (by decide)).1 (And.intro (Nat.le_of_ble_eq_true rfl) (And.intro (Nat.le_of_ble_eq_true rfl) ⟨0, 0, _, Nat.le_refl _, Nat.le_refl _, key, fun v m1 hq => ?_⟩))
  obtain ⟨rfl, hR1, hW1⟩ := hq
  have ev : ∀ i j, bz_v a 0 i j = a i j := fun i j => by unfold bz_v; rw [if_neg (by omega), ds_m_0]
  refine piv n 0 m1 _ (by omega) hR1 hW1 (fun i h1 h2 => va_up_ne _ _ (by omega)) ⟨by rw [va_up_self]; rfl, fun i hi => ?_, fun i hi j hj hjn => ?_⟩
  · rw [va_up_ne _ _ (by omega), ev]; exact hin i hi 0 (by omega)
  · rw [va_up_ne _ _ (by omega), if_neg (by omega), ev]; exact hin i hi j hjn
end FL7
