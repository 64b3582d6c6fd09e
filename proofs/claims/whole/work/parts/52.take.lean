/-- the solution that is held: by amounts at ports, by loads -/
def tkV (d : LD) (F : Nat → Nat → Nat) (z : Nat → Nat) (n pb jb : Nat) (V V' : Nat → Nat) : Prop :=
  V' 118 = V 108 ∧ (∀ p k, p < d.1.2.2 → k < d.1.1 → p * d.1.1 + k < pb → V' (119 + (p * d.1.1 + k)) = amz F z (p * d.1.1 + k) n) ∧ (∀ j, j < jb → V' (128 + j) = ldz F z (j * d.1.1) d.1.1) ∧ ∀ i, i < 118 → V' i = V i
section TK
variable {l : Launch} {D : va_G} {ca : Nat → ClassId}
set_option maxRecDepth 4000 in
theorem c_So_take {m0 : jm_M} {ad V : Nat → Nat} {d : LD} {F : Nat → Nat → Nat} {z : Nat → Nat} {n : Nat} (S : SST m0 ad) (L : LnV m0 ad d) (hO : LOK d) (hF : FlV m0 ad F) (hV : WV m0 ad V) (hsz : m0.2.2.1 (ad 2) 3 = nI n) (hn : n = d.1.2.1 * d.1.1) (hz : ∀ i, i < n → V (12 * i + n) = z i) (hF1 : ∀ r, r < 9 → ∀ i, i < n → F (27 + r) i < 1073741824) (hF2 : ∀ i, i < n → F 15 i < 1073741824) (hb1 : ∀ r, r < 9 → amz F z r n < wB ^ 13) (hb2 : ∀ j, j < d.1.2.1 → ldz F z (j * d.1.1) d.1.1 < wB ^ 13) :
    jm_C l D ca n_So_take [.ref (ad 3), .ref (ad 2), .ref (ad 1)] m0 0 0 (fun v m' => v = none ∧ FRs ad sP3 m0 m' ∧ m'.2.2.1 (ad 3) 0 = 1 ∧ m'.2.2.1 (ad 3) 1 = nI d.1.2.1 ∧ m'.2.2.1 (ad 3) 2 = nI d.1.2.2 ∧ ∃ V', WV m' ad V' ∧ tkV d F z n 9 d.1.2.1 V V') := by
  refine jm_C_of (cd := cd_So_take) (ini := false) (by decide +kernel) ok_So_take (fun h => by cases h) (Nat.le_of_ble_eq_true rfl) ?_
  intro X hX
  have hK := hO.1
  have hM := hO.2.1
  have hP := hO.2.2.1
  have hn9 : n ≤ 9 := by rw [hn]; exact Nat.mul_le_mul hM hK.2
  have o3 : ∀ {m' : jm_M}, SST m' ad → jm_ok m' (ad 3) 3 := fun S => S.ok 3 (Or.inl (by decide))
  have o2 : ∀ {m' : jm_M}, SST m' ad → jm_ok m' (ad 2) 1 := fun S => S.ok 2 (Or.inl (by decide))
  have o1 : ∀ {m' : jm_M}, SST m' ad → jm_ok m' (ad 1) 2 := fun S => S.ok 1 (Or.inl (by decide))
  have rb : ∀ {m' : jm_M}, SST m' ad → m'.2.2.2.2 (ad 2) 1 = some (ad 316) := fun S => S.2.2.1 (2, 1, 316) (by decide)
  have rsb : ∀ {m' : jm_M}, SST m' ad → m'.2.2.2.2 (ad 3) 3 = some (ad 336) := fun S => S.2.2.1 (3, 3, 336) (by decide)
  have ra : ∀ {m' : jm_M}, SST m' ad → m'.2.2.2.2 (ad 3) 4 = some (ad 41) := fun S => S.2.2.1 (3, 4, 41) (by decide)
  have o41 : ∀ {m' : jm_M}, SST m' ad → jm_ok m' (ad 41) 53 := fun S => S.ok 41 (Or.inl (by decide))
  have l41 : ∀ {m' : jm_M}, SST m' ad → (m'.2.1 (ad 41)).2 = 9 := fun S => S.len 41 (Or.inl (by decide))
  have rl : ∀ {m' : jm_M}, SST m' ad → m'.2.2.2.2 (ad 3) 5 = some (ad 42) := fun S => S.2.2.1 (3, 5, 42) (by decide)
  have o42 : ∀ {m' : jm_M}, SST m' ad → jm_ok m' (ad 42) 53 := fun S => S.ok 42 (Or.inl (by decide))
  have l42 : ∀ {m' : jm_M}, SST m' ad → (m'.2.1 (ad 42)).2 = 3 := fun S => S.len 42 (Or.inl (by decide))
  have hpW : ∀ k : Nat, 100 ≤ k → k < 364 → sP3 k := fun k h _ => Or.inr h
  have hjn : ∀ j i, j < d.1.2.1 → i < d.1.1 → j * d.1.1 + i < n := by
    intro j i hj hi
    rw [hn]
    have := Nat.mul_le_mul_right d.1.1 (show j + 1 ≤ d.1.2.1 from hj)
    rw [Nat.add_mul, Nat.one_mul] at this
    omega
  -- what is the same all along
  have al : ∀ {m : jm_M}, FRs ad sP3 m0 m → SST m ad ∧ LnV m ad d ∧ FlV m ad F ∧ m.2.2.1 (ad 2) 3 = nI n := fun {m} hR =>
    ⟨hR.S S, hR.L S sP3L L, fun t ht c hc => by rw [(hR.at S ht.kin (by unfold fk at ht; unfold sP3; omega)).1]; exact hF t ht c hc, by rw [(hR.at S (k := 2) (Or.inl (by decide)) (by unfold sP3; omega)).1]; exact hsz⟩
  have loads : ∀ (e j : Nat) (m : jm_M) (W : Nat → Nat), j + e = d.1.2.1 → FRs ad sP3 m0 m → m.2.2.1 (ad 3) 0 = 1 → m.2.2.1 (ad 3) 1 = nI d.1.2.1 → m.2.2.1 (ad 3) 2 = nI d.1.2.2 → WV m ad W → tkV d F z n 9 j V W → X 87 [(0, .ref (ad 3)), (1, .ref (ad 2)), (3, .int (nI j))] [] m 0 0 := by
    intro e
    induction e with
    | zero =>
      intro j m W hj hR h0 h1 h2 hW hT
      obtain ⟨Sm, Lm, hFm, hs⟩ := al hR
      refine jm_run hX [] 20 ?_
      refine And.intro (o3 Sm) (And.intro (fun _ => ?_) (fun g => ?_))
      · rw [show j = d.1.2.1 by omega] at hT
        exact ⟨Nat.le_refl _, Nat.le_refl _, trivial, rfl, hR, h0, h1, h2, W, hW, hT⟩
      · have g : ¬ m.2.2.1 (ad 3) 1 ≤ nI j := g
        rw [h1] at g
        exact absurd (nI_le (by omega) (by omega)) g
    | succ e ih =>
      intro j m W hj hR h0 h1 h2 hW hT
      obtain ⟨Sm, Lm, hFm, hs⟩ := al hR
      have hj3 : j < d.1.2.1 := by omega
      have el : ldA F W (j * d.1.1) n d.1.1 = ldz F z (j * d.1.1) d.1.1 := ds_nS_congr (fun i hi => by
        have := hjn j i hj3 hi
        rw [hT.2.2.2 _ (by omega), hz _ this])
      have key := c_Fl_putLoad (l := l) (D := D) (ca := ca) (j := j) (x := 128 + j) Sm Lm hO hFm hW hs hn9 hj3 (by omega) (by omega) (fun i hi => hF2 _ (hjn j i hj3 hi)) (by rw [el]; exact hb2 j hj3)
      rw [el] at key
      refine jm_run hX [(87, [0, 1, 3])] 20 ?_
      refine And.intro (o3 Sm) (And.intro (fun g => ?_) (fun _ => ?_))
      · have g : m.2.2.1 (ad 3) 1 ≤ nI j := g
        rw [h1] at g
        exact absurd g (nI_ge (by omega) (by omega))
      refine And.intro (o3 Sm) ⟨some (ad 42), rl Sm, And.intro (o42 Sm) (And.intro (vin_of (l42 Sm) (by omega) (by decide)) ⟨some (ad (100 + 2 * (128 + j))), ?_, ?_⟩)⟩
      · rw [nI_c (by omega), ← e42]; exact Sm.2.2.2.2.2.2.2.2.2 j (by omega)
      refine And.intro (o2 Sm) (And.intro (Nat.le_of_ble_eq_true rfl) (And.intro (Nat.le_of_ble_eq_true rfl) ⟨0, 0, _, Nat.le_refl _, Nat.le_refl _, key, fun v m1 hq => ?_⟩))
      obtain ⟨rfl, hR1, hW1⟩ := hq
      have e3 : m1.2.2.1 (ad 3) = m.2.2.1 (ad 3) := hR1.I Sm (by decide)
      have kk := ih (j + 1) m1 _ (by omega) (hR.tr (FRs.W hpW hR1)) (by rw [e3]; exact h0) (by rw [e3]; exact h1) (by rw [e3]; exact h2) hW1 ⟨by rw [va_up_ne _ _ (by omega)]; exact hT.1, fun p k hp hk hlt => by
          have := row_lt hK.2 hP hp hk
          rw [va_up_ne _ _ (by omega)]; exact hT.2.1 p k hp hk hlt, fun j' hj' => by
          by_cases e : j' = j
          · subst e; exact va_up_self _ _ _
          · rw [va_up_ne _ _ (by omega)]; exact hT.2.2.1 j' (by omega), fun i hi => by rw [va_up_ne _ _ (by omega)]; exact hT.2.2.2 i hi⟩
      rw [← nI_1] at kk
      exact kk
  have ports : ∀ (e p : Nat) (m : jm_M) (W : Nat → Nat), p + e = d.1.2.2 → FRs ad sP3 m0 m → m.2.2.1 (ad 3) 0 = 1 → m.2.2.1 (ad 3) 1 = nI d.1.2.1 → m.2.2.1 (ad 3) 2 = nI d.1.2.2 → WV m ad W → tkV d F z n (p * d.1.1) 0 V W → X 34 [(0, .ref (ad 3)), (1, .ref (ad 2)), (2, .ref (ad 1)), (3, .int (nI p))] [] m 0 0 := by
    intro e
    induction e with
    | zero =>
      intro p m W hp hR h0 h1 h2 hW hT
      obtain ⟨Sm, Lm, hFm, hs⟩ := al hR
      refine jm_run hX [(87, [0, 1, 3])] 20 ?_
      refine And.intro (o3 Sm) (And.intro (fun _ => ?_) (fun g => ?_))
      · refine loads d.1.2.1 0 m W (by omega) hR h0 h1 h2 hW ⟨hT.1, fun p' k' hp' hk' _ => hT.2.1 p' k' hp' hk' ?_, hT.2.2.1, hT.2.2.2⟩
        have := Nat.mul_le_mul_right d.1.1 (show p' + 1 ≤ p by omega)
        rw [Nat.add_mul, Nat.one_mul] at this
        omega
      · have g : ¬ m.2.2.1 (ad 3) 2 ≤ nI p := g
        rw [h2] at g
        exact absurd (nI_le (by omega) (by omega)) g
    | succ e ihe =>
      intro p m W hp hR h0 h1 h2 hW hT
      have hp3 : p < d.1.2.2 := by omega
      have inner : ∀ (f k : Nat) (m : jm_M) (W : Nat → Nat), k + f = d.1.1 → FRs ad sP3 m0 m → m.2.2.1 (ad 3) 0 = 1 → m.2.2.1 (ad 3) 1 = nI d.1.2.1 → m.2.2.1 (ad 3) 2 = nI d.1.2.2 → WV m ad W → tkV d F z n (p * d.1.1 + k) 0 V W → X 45 [(0, .ref (ad 3)), (1, .ref (ad 2)), (2, .ref (ad 1)), (3, .int (nI p)), (4, .int (nI k))] [] m 0 0 := by
        intro f
        induction f with
        | zero =>
          intro k m W hk hR h0 h1 h2 hW hT
          obtain ⟨Sm, Lm, hFm, hs⟩ := al hR
          have kk := ihe (p + 1) m W (by omega) hR h0 h1 h2 hW (by
            rw [Nat.add_mul, Nat.one_mul]; rw [show k = d.1.1 by omega] at hT; exact hT)
          rw [← nI_1] at kk
          refine jm_run hX [(34, [0, 1, 2, 3])] 20 ?_
          refine And.intro (o1 Sm) (And.intro (fun _ => kk) (fun g => ?_))
          have g : ¬ m.2.2.1 (ad 1) 0 ≤ nI k := g
          rw [Lm.1] at g
          exact absurd (nI_le (by omega) (by omega)) g
        | succ f ihf =>
          intro k m W hk hR h0 h1 h2 hW hT
          obtain ⟨Sm, Lm, hFm, hs⟩ := al hR
          have hk3 : k < d.1.1 := by omega
          have hrow := row_lt hK.2 hP hp3 hk3
          have key0 := c_Ln_row (l := l) (D := D) (ca := ca) (j := p) (k := k) Sm Lm
          have ea : amt F W (p * d.1.1 + k) n n = amz F z (p * d.1.1 + k) n := amt_z (fun i hi => by rw [hT.2.2.2 _ (by omega), hz i hi])
          have key := c_Fl_putAtPort (l := l) (D := D) (ca := ca) (p := p) (k := k) (x := 119 + (p * d.1.1 + k)) Sm Lm hFm hW hs hn9 hrow (by omega) (by omega) (hF1 _ hrow) (by rw [ea]; exact hb1 _ hrow)
          rw [ea] at key
          refine jm_run hX [(45, [0, 1, 2, 3, 4])] 30 ?_
          refine And.intro (o1 Sm) (And.intro (fun g => ?_) (fun _ => ?_))
          · have g : m.2.2.1 (ad 1) 0 ≤ nI k := g
            rw [Lm.1] at g
            exact absurd g (nI_ge (by omega) (by omega))
          refine And.intro (o3 Sm) ⟨some (ad 41), ra Sm, ?_⟩
          refine And.intro (o1 Sm) (And.intro (Nat.le_of_ble_eq_true rfl) (And.intro (Nat.le_of_ble_eq_true rfl) ⟨0, 0, _, Nat.le_refl _, Nat.le_refl _, key0, fun v m' hq => ?_⟩))
          obtain ⟨ee, rfl⟩ := hq
          have ee := ee.symm
          subst ee
          refine And.intro (o41 Sm) (And.intro (vin_of (l41 Sm) hrow (by decide)) ⟨some (ad (100 + 2 * (119 + (p * d.1.1 + k)))), ?_, ?_⟩)
          · rw [nI_c (by omega), ← e41]; exact Sm.2.2.2.2.2.2.2.2.1 _ hrow
          refine And.intro (o2 Sm) (And.intro (Nat.le_of_ble_eq_true rfl) (And.intro (Nat.le_of_ble_eq_true rfl) ⟨0, 0, _, Nat.le_refl _, Nat.le_refl _, key, fun v m1 hq => ?_⟩))
          obtain ⟨rfl, hR1, hW1⟩ := hq
          have e3 : m1.2.2.1 (ad 3) = m.2.2.1 (ad 3) := hR1.I Sm (by decide)
          have kk := ihf (k + 1) m1 _ (by omega) (hR.tr (FRs.W hpW hR1)) (by rw [e3]; exact h0) (by rw [e3]; exact h1) (by rw [e3]; exact h2) hW1 ⟨by rw [va_up_ne _ _ (by omega)]; exact hT.1, fun p' k' hp' hk' hlt => by
              by_cases e : p' * d.1.1 + k' = p * d.1.1 + k
              · rw [e]; exact va_up_self _ _ _
              · have := row_lt hK.2 hP hp' hk'
                rw [va_up_ne _ _ (by omega)]; exact hT.2.1 p' k' hp' hk' (by omega), fun j' hj' => absurd hj' (by omega), fun i hi => by rw [va_up_ne _ _ (by omega)]; exact hT.2.2.2 i hi⟩
          rw [← nI_1] at kk
          exact kk
      obtain ⟨Sm, Lm, hFm, hs⟩ := al hR
      refine jm_run hX [(45, [0, 1, 2, 3, 4])] 20 ?_
      refine And.intro (o3 Sm) (And.intro (fun g => ?_) (fun _ => ?_))
      · have g : m.2.2.1 (ad 3) 2 ≤ nI p := g
        rw [h2] at g
        exact absurd g (nI_ge (by omega) (by omega))
      exact inner d.1.1 0 m W (by omega) hR h0 h1 h2 hW hT
  -- the beginning
  have start : ∀ (m : jm_M), FRs ad sP3 m0 m → m.2.2.1 (ad 3) 0 = 1 → m.2.2.1 (ad 3) 1 = nI d.1.2.1 → m.2.2.1 (ad 3) 2 = nI d.1.2.2 → WV m ad V → X 21 [(0, .ref (ad 3)), (1, .ref (ad 2)), (2, .ref (ad 1))] [] m 0 0 := by
    intro m hR h0 h1 h2 hW
    obtain ⟨Sm, Lm, hFm, hs⟩ := al hR
    have key := w_b2 (l := l) (D := D) (ca := ca) (i := 118) (j := 108) Sm hW (by decide) (by decide)
    refine jm_run hX [(34, [0, 1, 2, 3])] 20 ?_
    refine And.intro (o3 Sm) ⟨some (ad 336), rsb Sm, And.intro (o2 Sm) ⟨some (ad 316), rb Sm, ?_⟩⟩
    refine And.intro (Sm.wh 118 (by decide)).1 (And.intro (Nat.le_of_ble_eq_true rfl) (And.intro (Nat.le_of_ble_eq_true rfl) ⟨0, 0, _, Nat.le_refl _, Nat.le_refl _, key, fun v m1 hq => ?_⟩))
    obtain ⟨rfl, hR1, hW1⟩ := hq
    have e3 : m1.2.2.1 (ad 3) = m.2.2.1 (ad 3) := hR1.I Sm (by decide)
    exact ports d.1.2.2 0 m1 _ (by omega) (hR.tr (FRs.W hpW hR1)) (by rw [e3]; exact h0) (by rw [e3]; exact h1) (by rw [e3]; exact h2) hW1 ⟨va_up_self _ _ _, fun p k _ _ h => absurd h (by omega), fun j h => absurd h (by omega), fun i hi => va_up_ne _ _ (by omega)⟩
  have f3 : ∀ {m : jm_M} {k : Nat} {x : Int32}, FRs ad sP3 m (uI m (ad 3) k x) := fun {m k x} => FRs.uI (i := 3) (Or.inl (by decide)) (Or.inl rfl)
  have f3' : ∀ {m : jm_M} {k : Nat} {x : Int32}, FRs ad (fun k => k = 3) m (uI m (ad 3) k x) := fun {m k x} => FRs.uI (i := 3) (Or.inl (by decide)) rfl
  have g3 : ∀ {m : jm_M} {k : Nat} {x : Int32}, (uI m (ad 3) k x).2.2.1 (ad 3) = va_up (m.2.2.1 (ad 3)) k x := fun {m k x} => va_up_self _ _ _
  have ne13 : ad 1 ≠ ad 3 := S.ne (Or.inl (by decide)) (Or.inl (by decide)) (by decide)
  have g1 : ∀ {m : jm_M} {k : Nat} {x : Int32}, (uI m (ad 3) k x).2.2.1 (ad 1) = m.2.2.1 (ad 1) := fun {m k x} => va_up_ne _ _ ne13
  have kk := start (uI (uI (uI m0 (ad 3) 0 1) (ad 3) 1 (nI d.1.2.1)) (ad 3) 2 (nI d.1.2.2)) (f3.tr (f3.tr f3)) (by rw [g3, va_up_ne _ _ (by decide), g3, va_up_ne _ _ (by decide), g3, va_up_self]) (by rw [g3, va_up_ne _ _ (by decide), g3, va_up_self]) (by rw [g3, va_up_self]) ((f3'.tr (f3'.tr f3')).V S (fun k h => by omega) hV)
  refine jm_run hX [(21, [0, 1, 2])] 20 ?_
  refine And.intro (o3 S) (And.intro (Or.inr rfl) (And.intro (o1 S) (And.intro (o3 S) (And.intro (o1 S) (And.intro (o3 S) ?_)))))
  have k2 : X 21 [(0, .ref (ad 3)), (1, .ref (ad 2)), (2, .ref (ad 1))] [] (uI (uI (uI m0 (ad 3) 0 1) (ad 3) 1 ((uI m0 (ad 3) 0 1).2.2.1 (ad 1) 1)) (ad 3) 2 ((uI (uI m0 (ad 3) 0 1) (ad 3) 1 ((uI m0 (ad 3) 0 1).2.2.1 (ad 1) 1)).2.2.1 (ad 1) 2)) 0 0 := by
    rw [g1, g1, g1, L.2.1, L.2.2.1]; exact kk
  exact k2
end TK
