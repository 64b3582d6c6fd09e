theorem row_inj {K j k j' k' : Nat} (hk : k < K) (hk' : k' < K) (h : j' * K + k' = j * K + k) : j' = j ∧ k' = k := by
  rcases Nat.lt_trichotomy j j' with q | q | q
  · have := Nat.mul_le_mul_right K (show j + 1 ≤ j' from q)
    rw [Nat.add_mul, Nat.one_mul] at this
    omega
  · subst q; omega
  · have := Nat.mul_le_mul_right K (show j' + 1 ≤ j from q)
    rw [Nat.add_mul, Nat.one_mul] at this
    omega
theorem row_of {K M r : Nat} (h : r < M * K) : ∃ j k, j < M ∧ k < K ∧ r = j * K + k := by
  have hK : 0 < K := by
    rcases Nat.eq_zero_or_pos K with q | q
    · rw [q, Nat.mul_zero] at h; omega
    · exact q
  refine ⟨r / K, r % K, (Nat.div_lt_iff_lt_mul hK).mpr h, Nat.mod_lt _ hK, ?_⟩
  rw [Nat.mul_comm]; exact (Nat.div_add_mod r K).symm
def fP (k : Nat) : Prop := k = 2 ∨ fk k ∨ 100 ≤ k
/-- all columns were read -/
def RA (d : LD) (F : Nat → Nat → Nat) (b : Nat) : Prop := ∀ j k, j < d.1.2.1 → k < d.1.1 → j * d.1.1 + k < b → RC d j k (fun t => F t (j * d.1.1 + k))
theorem RA.at {d : LD} {F : Nat → Nat → Nat} (hB : LB d) (h : RA d F (d.1.2.1 * d.1.1)) {r : Nat} (hr : r < d.1.2.1 * d.1.1) : (∀ t, fk t → F t r ≤ 768398400) ∧ (∀ t, fk t → F t r ≤ F 15 r) ∧ 1 ≤ F 15 r := by
  obtain ⟨j, k, hj, hk, rfl⟩ := row_of hr
  obtain ⟨g, hg1, hgc, _⟩ := h j k hj hk hr
  have hgc : ∀ t, fk t → g * F t (j * d.1.1 + k) = colD d j k t := hgc
  have hb := hB j k hj hk
  have h15 := hgc 15 (Or.inl rfl)
  rw [colD_15] at h15
  refine ⟨fun t ht => ?_, fun t ht => ?_, ?_⟩
  · have h1 := hgc t ht
    have h2 := hb t ht
    have h3 : F t (j * d.1.1 + k) ≤ g * F t (j * d.1.1 + k) := Nat.le_mul_of_pos_left _ hg1
    omega
  · have h1 := hgc t ht
    have h2 := hb t ht
    exact Nat.le_of_mul_le_mul_left (by rw [h1, h15]; exact h2) hg1
  · rcases Nat.eq_zero_or_pos (F 15 (j * d.1.1 + k)) with q | q
    · rw [q, Nat.mul_zero] at h15; omega
    · exact q
/-- row r of the cells as it is read -/
def rowOK (d : LD) (F : Nat → Nat → Nat) (V : Nat → Nat) (r : Nat) : Prop := (∀ c, c < d.1.2.1 * d.1.1 → V (12 * r + c) = if r = c then F 15 r - F (17 + r) r else F (17 + r) c) ∧ V (12 * r + d.1.2.1 * d.1.1) = d.2.2.2.2.2.2 r
section FL5
variable {l : Launch} {D : va_G} {ca : Nat → ClassId}
set_option maxRecDepth 4000 in
theorem c_Fl_readLine {m0 : jm_M} {ad V : Nat → Nat} {d : LD} {F : Nat → Nat → Nat} (S : SST m0 ad) (L : LnV m0 ad d) (hO : LOK d) (hB : LB d) (hF : FlV m0 ad F) (hV : WV m0 ad V) : jm_C l D ca n_Fl_readLine [.ref (ad 2)] m0 0 0 (fun v m' => v = none ∧ FRs ad fP m0 m' ∧ m'.2.2.1 (ad 2) 3 = nI (d.1.2.1 * d.1.1) ∧ ∃ F' V', FlV m' ad F' ∧ RA d F' (d.1.2.1 * d.1.1) ∧ WV m' ad V' ∧ (∀ i, 108 ≤ i → V' i = V i) ∧ ∀ r, r < d.1.2.1 * d.1.1 → rowOK d F' V' r) := by
  refine jm_C_of (cd := cd_Fl_readLine) (ini := false) (by decide +kernel) ok_Fl_readLine (fun h => by cases h) (Nat.le_of_ble_eq_true rfl) ?_
  intro X hX
  have hK := hO.1
  have hM := hO.2.1
  have hn9 : d.1.2.1 * d.1.1 ≤ 9 := Nat.mul_le_mul hM hK.2
  have o2 : ∀ {m' : jm_M}, SST m' ad → jm_ok m' (ad 2) 1 := fun S => S.ok 2 (Or.inl (by decide))
  have o1 : ∀ {m' : jm_M}, SST m' ad → jm_ok m' (ad 1) 2 := fun S => S.ok 1 (Or.inl (by decide))
  have r1 : ∀ {m' : jm_M}, SST m' ad → m'.2.2.2.2 (ad 2) 2 = some (ad 1) := fun S => S.2.2.1 (2, 2, 1) (by decide)
  have hLp : ∀ k, k < 15 → fP k → k = 0 ∨ k = 2 ∨ k = 3 ∨ k = 4 ∨ 10 < k := fun k hk h => by unfold fP fk at h; omega
  have rows : ∀ (F : Nat → Nat → Nat), RA d F (d.1.2.1 * d.1.1) → ∀ (e r : Nat) (m : jm_M) (W : Nat → Nat), r + e = d.1.2.1 * d.1.1 → FRs ad fP m0 m → m.2.2.1 (ad 2) 3 = nI (d.1.2.1 * d.1.1) → FlV m ad F → WV m ad W → (∀ i, 108 ≤ i → W i = V i) → (∀ r', r' < r → rowOK d F W r') → X 65 [(0, .ref (ad 2)), (1, .int (nI r))] [] m 0 0 := by
    intro F hA e
    induction e with
    | zero =>
      intro r m W hr hR hs hF hW hhi hro
      have Sm := hR.S S
      refine jm_run hX [] 20 ?_
      refine And.intro (o2 Sm) (And.intro (fun _ => ?_) (fun g => ?_))
      · exact ⟨Nat.le_refl _, Nat.le_refl _, trivial, rfl, hR, hs, F, W, hF, hA, hW, hhi, fun r' h => hro r' (by omega)⟩
      · have g : ¬ m.2.2.1 (ad 2) 3 ≤ nI r := g
        rw [hs] at g
        exact absurd (nI_le (by omega) (by omega)) g
    | succ e ih =>
      intro r m W hr hR hs hF hW hhi hro
      have hrn : r < d.1.2.1 * d.1.1 := by omega
      have hbd := hA.at hB hrn
      have ht : fk (17 + r) := fk_m (by omega)
      -- the rest of the row
      have rest : ∀ (m : jm_M) (W : Nat → Nat), FRs ad fP m0 m → m.2.2.1 (ad 2) 3 = nI (d.1.2.1 * d.1.1) → FlV m ad F → WV m ad W → (∀ i, 108 ≤ i → W i = V i) → (∀ r', r' < r → rowOK d F W r') → (∀ c, c < d.1.2.1 * d.1.1 → W (12 * r + c) = F (17 + r) c) → X 107 [(0, .ref (ad 2)), (1, .int (nI r))] [] m 0 0 := by
        intro m W hR hs hF hW hhi hro hc
        have Sm := hR.S S
        have r15 : m.2.2.2.2 (ad 2) 4 = some (ad 15) := Sm.2.2.1 (2, 4, 15) (by decide)
        have o16 : jm_ok m (ad 16) 54 := Sm.ok 16 (Or.inl (by decide))
        have r16 : m.2.2.2.2 (ad 2) 5 = some (ad 16) := Sm.2.2.1 (2, 5, 16) (by decide)
        have l16 : (m.2.1 (ad 16)).2 = 9 := Sm.len 16 (Or.inl (by decide))
        have q := fkok Sm ht
        have q15 := fkok Sm (Or.inl rfl : fk 15)
        have hF15 := hbd.1 15 (Or.inl rfl)
        have hFd := hbd.2.1 _ ht
        have ev : (m.2.2.1 (ad 15) (nI r).toNatClampNeg - m.2.2.1 (ad (17 + r)) (nI r).toNatClampNeg).toInt64 = lN (F 15 r - F (17 + r) r) := by
          rw [nI_c (by omega), hF.get (Or.inl rfl) (by omega) rfl, hF.get ht (by omega) rfl, pk_sub hFd, nI_l (by omega)]
        have key1 := c_Fl_cell (l := l) (D := D) (ca := ca) (r := r) (c := r) Sm (by omega)
        have key2 := w_b1 (l := l) (D := D) (ca := ca) (i := 12 * r + r) (x := F 15 r - F (17 + r) r) Sm hW (by omega) (by omega)
        rw [← ev] at key2
        refine jm_run hX [(65, [0, 1])] 40 ?_
        refine And.intro (o2 Sm) (And.intro (Nat.le_of_ble_eq_true rfl) (And.intro (Nat.le_of_ble_eq_true rfl) ⟨0, 0, _, Nat.le_refl _, Nat.le_refl _, key1, fun v m' hq => ?_⟩))
        obtain ⟨ee, rfl⟩ := hq
        have ee := ee.symm
        subst ee
        refine And.intro (o2 Sm) ⟨some (ad 15), r15, And.intro q15.1 (And.intro (vin_of q15.2 (by omega) (by decide)) ?_)⟩
        refine And.intro (o2 Sm) ⟨some (ad 16), r16, And.intro o16 (And.intro (vin_of l16 (by omega) (by decide)) ⟨some (ad (17 + r)), ?_, ?_⟩)⟩
        · rw [nI_c (by omega)]; exact Sm.2.2.2.2.1 r (by omega)
        refine And.intro q.1 (And.intro (vin_of q.2 (by omega) (by decide)) ?_)
        refine And.intro (Sm.wh (12 * r + r) (by omega)).1 (And.intro (Nat.le_of_ble_eq_true rfl) (And.intro (Nat.le_of_ble_eq_true rfl) ⟨0, 0, _, Nat.le_refl _, Nat.le_refl _, key2, fun v m1 hq => ?_⟩))
        obtain ⟨rfl, hR1, hW1⟩ := hq
        have S1 := hR1.S Sm
        have hRR1 : FRs ad fP m0 m1 := hR.tr (FRs.W (fun k h _ => Or.inr (Or.inr h)) hR1)
        have hs1 : m1.2.2.1 (ad 2) 3 = nI (d.1.2.1 * d.1.1) := by rw [hR1.I Sm (by decide)]; exact hs
        have L1 := hRR1.L S hLp L
        have o10 : jm_ok m1 (ad 10) 51 := S1.ok 10 (Or.inl (by decide))
        have r10 : m1.2.2.2.2 (ad 1) 8 = some (ad 10) := S1.2.2.1 (1, 8, 10) (by decide)
        have l10 : (m1.2.1 (ad 10)).2 = 9 := S1.len 10 (Or.inl (by decide))
        have hfe := hO.2.2.2.2.2.2.2.2 r (by omega)
        have key3 := c_Fl_cell (l := l) (D := D) (ca := ca) (r := r) (c := d.1.2.1 * d.1.1) S1 (by omega)
        have key4 := w_b1 (l := l) (D := D) (ca := ca) (i := 12 * r + d.1.2.1 * d.1.1) (x := d.2.2.2.2.2.2 r) S1 hW1 (by omega) (by omega)
        have ev2 : m1.2.2.2.1 (ad 10) (nI r).toNatClampNeg = lN (d.2.2.2.2.2.2 r) := by
          rw [nI_c (by omega), L1.2.2.2.2.2.2.2.2]
        rw [← ev2] at key4
        refine And.intro (o2 S1) ?_
        refine And.intro (o2 S1) (And.intro (Nat.le_of_ble_eq_true rfl) (And.intro (Nat.le_of_ble_eq_true rfl) ⟨0, 0, _, Nat.le_refl _, Nat.le_refl _, (by rw [hs1]; exact key3), fun v m' hq => ?_⟩))
        obtain ⟨ee, rfl⟩ := hq
        have ee := ee.symm
        subst ee
        refine And.intro (o2 S1) ⟨some (ad 1), r1 S1, And.intro (o1 S1) ⟨some (ad 10), r10, And.intro o10 (And.intro (vin_of l10 (by omega) (by decide)) ?_)⟩⟩
        refine And.intro (S1.wh (12 * r + d.1.2.1 * d.1.1) (by omega)).1 (And.intro (Nat.le_of_ble_eq_true rfl) (And.intro (Nat.le_of_ble_eq_true rfl) ⟨0, 0, _, Nat.le_refl _, Nat.le_refl _, key4, fun v m2 hq => ?_⟩))
        obtain ⟨rfl, hR2, hW2⟩ := hq
        have hRR2 : FRs ad fP m0 m2 := hRR1.tr (FRs.W (fun k h _ => Or.inr (Or.inr h)) hR2)
        have kk := ih (r + 1) m2 _ (by omega) hRR2 (by rw [hR2.I S1 (by decide)]; exact hs1) (hR2.F S1 (hR1.F Sm hF)) hW2 (fun i hi => by rw [va_up_ne _ _ (by omega), va_up_ne _ _ (by omega)]; exact hhi i hi) (fun r' hr' => by
          by_cases e : r' = r
          · subst e
            refine ⟨fun c hcn => ?_, va_up_self _ _ _⟩
            rw [va_up_ne _ _ (by omega)]
            by_cases e2 : r' = c
            · subst e2; rw [va_up_self, if_pos rfl]
            · rw [va_up_ne _ _ (by omega), if_neg e2]; exact hc c hcn
          · have ho := hro r' (by omega)
            refine ⟨fun c hcn => ?_, ?_⟩
            · rw [va_up_ne _ _ (by omega), va_up_ne _ _ (by omega)]; exact ho.1 c hcn
            · rw [va_up_ne _ _ (by omega), va_up_ne _ _ (by omega)]; exact ho.2)
        rw [← nI_1] at kk
        exact kk
      have inner : ∀ (f c : Nat) (m : jm_M) (W : Nat → Nat), c + f = d.1.2.1 * d.1.1 → FRs ad fP m0 m → m.2.2.1 (ad 2) 3 = nI (d.1.2.1 * d.1.1) → FlV m ad F → WV m ad W → (∀ i, 108 ≤ i → W i = V i) → (∀ r', r' < r → rowOK d F W r') → (∀ c', c' < c → W (12 * r + c') = F (17 + r) c') → X 75 [(0, .ref (ad 2)), (1, .int (nI r)), (2, .int (nI c))] [] m 0 0 := by
        intro f
        induction f with
        | zero =>
          intro c m W hc hR hs hF hW hhi hro hcc
          have Sm := hR.S S
          refine jm_run hX [(107, [0, 1])] 20 ?_
          refine And.intro (o2 Sm) (And.intro (fun _ => ?_) (fun g => ?_))
          · exact rest m W hR hs hF hW hhi hro (fun c' h => hcc c' (by omega))
          · have g : ¬ m.2.2.1 (ad 2) 3 ≤ nI c := g
            rw [hs] at g
            exact absurd (nI_le (by omega) (by omega)) g
        | succ f ihf =>
          intro c m W hc hR hs hF hW hhi hro hcc
          have Sm := hR.S S
          have o16 : jm_ok m (ad 16) 54 := Sm.ok 16 (Or.inl (by decide))
          have r16 : m.2.2.2.2 (ad 2) 5 = some (ad 16) := Sm.2.2.1 (2, 5, 16) (by decide)
          have l16 : (m.2.1 (ad 16)).2 = 9 := Sm.len 16 (Or.inl (by decide))
          have q := fkok Sm ht
          have hFb := (hA.at hB (r := c) (by omega)).1 _ ht
          have ev : (m.2.2.1 (ad (17 + r)) (nI c).toNatClampNeg).toInt64 = lN (F (17 + r) c) := by
            rw [nI_c (by omega), hF.get ht (by omega) rfl, nI_l (by omega)]
          have key1 := c_Fl_cell (l := l) (D := D) (ca := ca) (r := r) (c := c) Sm (by omega)
          have key2 := w_b1 (l := l) (D := D) (ca := ca) (i := 12 * r + c) (x := F (17 + r) c) Sm hW (by omega) (by omega)
          rw [← ev] at key2
          refine jm_run hX [(75, [0, 1, 2])] 40 ?_
          refine And.intro (o2 Sm) (And.intro (fun g => ?_) (fun _ => ?_))
          · have g : m.2.2.1 (ad 2) 3 ≤ nI c := g
            rw [hs] at g
            exact absurd g (nI_ge (by omega) (by omega))
          refine And.intro (o2 Sm) (And.intro (Nat.le_of_ble_eq_true rfl) (And.intro (Nat.le_of_ble_eq_true rfl) ⟨0, 0, _, Nat.le_refl _, Nat.le_refl _, key1, fun v m' hq => ?_⟩))
          obtain ⟨ee, rfl⟩ := hq
          have ee := ee.symm
          subst ee
          refine And.intro (o2 Sm) ⟨some (ad 16), r16, And.intro o16 (And.intro (vin_of l16 (by omega) (by decide)) ⟨some (ad (17 + r)), ?_, ?_⟩)⟩
          · rw [nI_c (by omega)]; exact Sm.2.2.2.2.1 r (by omega)
          refine And.intro q.1 (And.intro (vin_of q.2 (by omega) (by decide)) ?_)
          refine And.intro (Sm.wh (12 * r + c) (by omega)).1 (And.intro (Nat.le_of_ble_eq_true rfl) (And.intro (Nat.le_of_ble_eq_true rfl) ⟨0, 0, _, Nat.le_refl _, Nat.le_refl _, key2, fun v m1 hq => ?_⟩))
          obtain ⟨rfl, hR1, hW1⟩ := hq
          have kk := ihf (c + 1) m1 _ (by omega) (hR.tr (FRs.W (fun k h _ => Or.inr (Or.inr h)) hR1)) (by rw [hR1.I Sm (by decide)]; exact hs) (hR1.F Sm hF) hW1 (fun i hi => by rw [va_up_ne _ _ (by omega)]; exact hhi i hi) (fun r' hr' => by
            have ho := hro r' hr'
            refine ⟨fun c hcn => ?_, ?_⟩
            · rw [va_up_ne _ _ (by omega)]; exact ho.1 c hcn
            · rw [va_up_ne _ _ (by omega)]; exact ho.2) (fun c' hc' => by
            by_cases e : c' = c
            · subst e; exact va_up_self _ _ _
            · rw [va_up_ne _ _ (by omega)]; exact hcc c' (by omega))
          rw [← nI_1] at kk
          exact kk
      have Sm := hR.S S
      refine jm_run hX [(75, [0, 1, 2])] 20 ?_
      refine And.intro (o2 Sm) (And.intro (fun g => ?_) (fun _ => ?_))
      · have g : m.2.2.1 (ad 2) 3 ≤ nI r := g
        rw [hs] at g
        exact absurd g (nI_ge (by omega) (by omega))
      exact inner (d.1.2.1 * d.1.1) 0 m W (by omega) hR hs hF hW hhi hro (fun c' h => absurd h (by omega))
  -- the columns
  have outer : ∀ (e j : Nat) (m : jm_M) (F : Nat → Nat → Nat), j + e = d.1.2.1 → FRs ad fP m0 m → m.2.2.1 (ad 2) 3 = nI (d.1.2.1 * d.1.1) → FlV m ad F → WV m ad V → RA d F (j * d.1.1) → X 21 [(0, .ref (ad 2)), (1, .int (nI j))] [] m 0 0 := by
    intro e
    induction e with
    | zero =>
      intro j m F hj hR hs hF hW hA
      have Sm := hR.S S
      have Lm := hR.L S hLp L
      refine jm_run hX [(65, [0, 1])] 20 ?_
      refine And.intro (o2 Sm) ⟨some (ad 1), r1 Sm, And.intro (o1 Sm) (And.intro (fun _ => ?_) (fun g => ?_))⟩
      · rw [show j = d.1.2.1 by omega] at hA
        exact rows F hA (d.1.2.1 * d.1.1) 0 m V (by omega) hR hs hF hW (fun _ _ => rfl) (fun r' h => absurd h (by omega))
      · have g : ¬ m.2.2.1 (ad 1) 1 ≤ nI j := g
        rw [Lm.2.1] at g
        exact absurd (nI_le (by omega) (by omega)) g
    | succ e ihe =>
      intro j m F hj hR hs hF hW hA
      have hj3 : j < d.1.2.1 := by omega
      have inner : ∀ (f k : Nat) (m : jm_M) (F : Nat → Nat → Nat), k + f = d.1.1 → FRs ad fP m0 m → m.2.2.1 (ad 2) 3 = nI (d.1.2.1 * d.1.1) → FlV m ad F → WV m ad V → RA d F (j * d.1.1 + k) → X 34 [(0, .ref (ad 2)), (1, .int (nI j)), (2, .int (nI k))] [] m 0 0 := by
        intro f
        induction f with
        | zero =>
          intro k m F hk hR hs hF hW hA
          have Sm := hR.S S
          have Lm := hR.L S hLp L
          have kk := ihe (j + 1) m F (by omega) hR hs hF hW (by rw [Nat.add_mul, Nat.one_mul]; rw [show k = d.1.1 by omega] at hA; exact hA)
          rw [← nI_1] at kk
          refine jm_run hX [(21, [0, 1])] 20 ?_
          refine And.intro (o2 Sm) ⟨some (ad 1), r1 Sm, And.intro (o1 Sm) (And.intro (fun _ => kk) (fun g => ?_))⟩
          have g : ¬ m.2.2.1 (ad 1) 0 ≤ nI k := g
          rw [Lm.1] at g
          exact absurd (nI_le (by omega) (by omega)) g
        | succ f ihf =>
          intro k m F hk hR hs hF hW hA
          have hk3 : k < d.1.1 := by omega
          have Sm := hR.S S
          have Lm := hR.L S hLp L
          have key := c_Fl_readColumn (l := l) (D := D) (ca := ca) Sm Lm hO hB hF hj3 hk3
          refine jm_run hX [(34, [0, 1, 2])] 20 ?_
          refine And.intro (o2 Sm) ⟨some (ad 1), r1 Sm, And.intro (o1 Sm) (And.intro (fun g => ?_) (fun _ => ?_))⟩
          · have g : m.2.2.1 (ad 1) 0 ≤ nI k := g
            rw [Lm.1] at g
            exact absurd g (nI_ge (by omega) (by omega))
          refine And.intro (o2 Sm) (And.intro (Nat.le_of_ble_eq_true rfl) (And.intro (Nat.le_of_ble_eq_true rfl) ⟨0, 0, _, Nat.le_refl _, Nat.le_refl _, key, fun v m1 hq => ?_⟩))
          obtain ⟨rfl, hR1, C, hC, hF1⟩ := hq
          have kk := ihf (k + 1) m1 _ (by omega) (hR.tr (hR1.mo (fun k h => Or.inr (Or.inl h)))) (by rw [(hR1.at Sm (k := 2) (Or.inl (by decide)) (by unfold fk; omega)).1]; exact hs) hF1 (hR1.V Sm (fun k h => by unfold fk at h; omega) hW) (fun j' k' hj' hk' hlt => by
            by_cases e : j' * d.1.1 + k' = j * d.1.1 + k
            · obtain ⟨rfl, rfl⟩ := row_inj hk3 hk' e
              have e2 : (fun t => colF F (j' * d.1.1 + k') C t (j' * d.1.1 + k')) = C := by
                funext t; exact if_pos rfl
              rw [e2]; exact hC
            · have e2 : (fun t => colF F (j * d.1.1 + k) C t (j' * d.1.1 + k')) = fun t => F t (j' * d.1.1 + k') := by
                funext t; exact if_neg e
              rw [e2]; exact hA j' k' hj' hk' (by omega))
          rw [← nI_1] at kk
          exact kk
      have Sm := hR.S S
      have Lm := hR.L S hLp L
      refine jm_run hX [(34, [0, 1, 2])] 20 ?_
      refine And.intro (o2 Sm) ⟨some (ad 1), r1 Sm, And.intro (o1 Sm) (And.intro (fun g => ?_) (fun _ => ?_))⟩
      · have g : m.2.2.1 (ad 1) 1 ≤ nI j := g
        rw [Lm.2.1] at g
        exact absurd g (nI_ge (by omega) (by omega))
      exact inner d.1.1 0 m F (by omega) hR hs hF hW hA
  have hR1 : FRs ad fP m0 (uI m0 (ad 2) 3 (nI (d.1.2.1 * d.1.1))) := FRs.uI (i := 2) (Or.inl (by decide)) (Or.inl rfl)
  have hR2 : FRs ad (fun k => k = 2) m0 (uI m0 (ad 2) 3 (nI (d.1.2.1 * d.1.1))) := FRs.uI (i := 2) (Or.inl (by decide)) rfl
  have kk := outer d.1.2.1 0 _ F (by omega) hR1 (by show va_up m0.2.2.1 (ad 2) (va_up (m0.2.2.1 (ad 2)) 3 _) (ad 2) 3 = _; rw [va_up_self, va_up_self]) (fun t ht c hc => by rw [(hR2.at S ht.kin (by unfold fk at ht; omega)).1]; exact hF t ht c hc) (hR2.V S (fun k h => by omega) hV) (fun j k hj hk h => absurd h (by omega))
  rw [← pk_mul, ← L.2.1, ← L.1] at kk
  refine jm_run hX [(21, [0, 1])] 20 ?_
  refine And.intro (o2 S) ⟨some (ad 1), r1 S, And.intro (o1 S) (And.intro (o2 S) ⟨some (ad 1), r1 S, And.intro (o1 S) (And.intro (o2 S) kk)⟩)⟩
end FL5
