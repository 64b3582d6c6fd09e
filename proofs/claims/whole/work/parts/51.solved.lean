theorem e41 (i : Nat) : 338 + 2 * i = 100 + 2 * (119 + i) := by omega
theorem e42 (i : Nat) : 356 + 2 * i = 100 + 2 * (128 + i) := by omega
def sP3 (k : Nat) : Prop := k = 3 ∨ 100 ≤ k
theorem sP3L : ∀ k, k < 15 → sP3 k → k = 0 ∨ k = 2 ∨ k = 3 ∨ k = 4 ∨ 10 < k := fun k _ h => by unfold sP3 at h; omega
section SO
variable {l : Launch} {D : va_G} {ca : Nat → ClassId}
theorem c_So_hasMachine {m : jm_M} {ad : Nat → Nat} {kn : Bool} {sM : Nat} (S : SST m ad) (h0 : m.2.2.1 (ad 3) 0 = bI kn) (h1 : kn = true → m.2.2.1 (ad 3) 1 = nI sM) (hM : sM < 2 ^ 31) (x : Int32) : jm_C l D ca n_So_hasMachine [.ref (ad 3), .int x] m 0 0 (fun v m' => m' = m ∧ v = some (.int (if kn = true ∧ 0 ≤ x.toInt ∧ x.toInt < (sM : Int) then 1 else 0))) := by
  refine jm_C_of (cd := cd_So_hasMachine) (ini := false) (by decide +kernel) ok_So_hasMachine (fun h => by cases h) (Nat.le_of_ble_eq_true rfl) ?_
  intro X hX
  have o3 : jm_ok m (ad 3) 3 := S.ok 3 (Or.inl (by decide))
  refine jm_run hX [] 20 ?_
  refine And.intro o3 ?_
  cases kn with
  | false =>
    refine And.intro (fun g => ?_) (fun g => ?_)
    · exact ⟨Nat.le_refl _, Nat.le_refl _, Or.inl rfl, rfl, by rw [if_neg (fun q => by cases q.1)]⟩
    · have g : ¬ m.2.2.1 (ad 3) 0 = 0 := g
      rw [h0] at g; exact absurd rfl g
  | true =>
    refine And.intro (fun g => ?_) (fun g => ?_)
    · have g : m.2.2.1 (ad 3) 0 = 0 := g
      rw [h0] at g; exact absurd g (by decide)
    refine And.intro (fun g => ?_) (fun g => ?_)
    · rw [ilt0] at g
      exact ⟨Nat.le_refl _, Nat.le_refl _, Or.inl rfl, rfl, by rw [if_neg (by omega)]⟩
    · rw [ilt0] at g
      refine And.intro o3 (And.intro (fun g2 => ?_) (fun g2 => ?_))
      · have g2 : m.2.2.1 (ad 3) 1 ≤ x := g2
        rw [h1 rfl, ileN hM] at g2
        exact ⟨Nat.le_refl _, Nat.le_refl _, Or.inl rfl, rfl, by rw [if_neg (by omega)]⟩
      · have g2 : ¬ m.2.2.1 (ad 3) 1 ≤ x := g2
        rw [h1 rfl, ileN hM] at g2
        exact ⟨Nat.le_refl _, Nat.le_refl _, Or.inr rfl, rfl, by rw [if_pos ⟨rfl, by omega⟩]⟩
theorem c_So_hasPort {m : jm_M} {ad : Nat → Nat} {kn : Bool} {sM : Nat} (S : SST m ad) (h0 : m.2.2.1 (ad 3) 0 = bI kn) (h1 : kn = true → m.2.2.1 (ad 3) 2 = nI sM) (hM : sM < 2 ^ 31) (x : Int32) : jm_C l D ca n_So_hasPort [.ref (ad 3), .int x] m 0 0 (fun v m' => m' = m ∧ v = some (.int (if kn = true ∧ 0 ≤ x.toInt ∧ x.toInt < (sM : Int) then 1 else 0))) := by
  refine jm_C_of (cd := cd_So_hasPort) (ini := false) (by decide +kernel) ok_So_hasPort (fun h => by cases h) (Nat.le_of_ble_eq_true rfl) ?_
  intro X hX
  have o3 : jm_ok m (ad 3) 3 := S.ok 3 (Or.inl (by decide))
  refine jm_run hX [] 20 ?_
  refine And.intro o3 ?_
  cases kn with
  | false =>
    refine And.intro (fun g => ?_) (fun g => ?_)
    · exact ⟨Nat.le_refl _, Nat.le_refl _, Or.inl rfl, rfl, by rw [if_neg (fun q => by cases q.1)]⟩
    · have g : ¬ m.2.2.1 (ad 3) 0 = 0 := g
      rw [h0] at g; exact absurd rfl g
  | true =>
    refine And.intro (fun g => ?_) (fun g => ?_)
    · have g : m.2.2.1 (ad 3) 0 = 0 := g
      rw [h0] at g; exact absurd g (by decide)
    refine And.intro (fun g => ?_) (fun g => ?_)
    · rw [ilt0] at g
      exact ⟨Nat.le_refl _, Nat.le_refl _, Or.inl rfl, rfl, by rw [if_neg (by omega)]⟩
    · rw [ilt0] at g
      refine And.intro o3 (And.intro (fun g2 => ?_) (fun g2 => ?_))
      · have g2 : m.2.2.1 (ad 3) 2 ≤ x := g2
        rw [h1 rfl, ileN hM] at g2
        exact ⟨Nat.le_refl _, Nat.le_refl _, Or.inl rfl, rfl, by rw [if_neg (by omega)]⟩
      · have g2 : ¬ m.2.2.1 (ad 3) 2 ≤ x := g2
        rw [h1 rfl, ileN hM] at g2
        exact ⟨Nat.le_refl _, Nat.le_refl _, Or.inr rfl, rfl, by rw [if_pos ⟨rfl, by omega⟩]⟩
/-- sum becomes all that came to a port -/
theorem c_So_allAtPort {m0 : jm_M} {ad V : Nat → Nat} {d : LD} {p : Nat} (S : SST m0 ad) (L : LnV m0 ad d) (hO : LOK d) (hV : WV m0 ad V) (hp : p < 3) (hb : ds_nS (fun k => V (119 + (p * d.1.1 + k))) d.1.1 < wB ^ 13) : jm_C l D ca n_So_allAtPort [.ref (ad 3), .int (nI p), .ref (ad 1)] m0 0 0 (fun v m' => v = some (.ref (ad (100 + 2 * 131))) ∧ FRW ad m0 m' ∧ WV m' ad (va_up V 131 (ds_nS (fun k => V (119 + (p * d.1.1 + k))) d.1.1))) := by
  refine jm_C_of (cd := cd_So_allAtPort) (ini := false) (by decide +kernel) ok_So_allAtPort (fun h => by cases h) (Nat.le_of_ble_eq_true rfl) ?_
  intro X hX
  have hK := hO.1
  have o3 : ∀ {m' : jm_M}, SST m' ad → jm_ok m' (ad 3) 3 := fun S => S.ok 3 (Or.inl (by decide))
  have o1 : ∀ {m' : jm_M}, SST m' ad → jm_ok m' (ad 1) 2 := fun S => S.ok 1 (Or.inl (by decide))
  have rs : ∀ {m' : jm_M}, SST m' ad → m'.2.2.2.2 (ad 3) 6 = some (ad 362) := fun S => S.2.2.1 (3, 6, 362) (by decide)
  have ra : ∀ {m' : jm_M}, SST m' ad → m'.2.2.2.2 (ad 3) 4 = some (ad 41) := fun S => S.2.2.1 (3, 4, 41) (by decide)
  have o41 : ∀ {m' : jm_M}, SST m' ad → jm_ok m' (ad 41) 53 := fun S => S.ok 41 (Or.inl (by decide))
  have l41 : ∀ {m' : jm_M}, SST m' ad → (m'.2.1 (ad 41)).2 = 9 := fun S => S.len 41 (Or.inl (by decide))
  have loop : ∀ (e i : Nat) (m : jm_M), i + e = d.1.1 → FRW ad m0 m → WV m ad (va_up V 131 (ds_nS (fun k => V (119 + (p * d.1.1 + k))) i)) → X 10 [(0, .ref (ad 3)), (1, .int (nI p)), (2, .ref (ad 1)), (3, .int (nI i))] [] m 0 0 := by
    intro e
    induction e with
    | zero =>
      intro i m hi hR hW
      have Sm := hR.S S
      have Lm := hR.L S L
      refine jm_run hX [] 20 ?_
      refine And.intro (o1 Sm) (And.intro (fun _ => ?_) (fun g => ?_))
      · refine And.intro (o3 Sm) ⟨some (ad 362), rs Sm, ?_⟩
        rw [show i = d.1.1 by omega] at hW
        exact ⟨Nat.le_refl _, Nat.le_refl _, trivial, rfl, hR, hW⟩
      · have g : ¬ m.2.2.1 (ad 1) 0 ≤ nI i := g
        rw [Lm.1] at g
        exact absurd (nI_le (by omega) (by omega)) g
    | succ e ih =>
      intro i m hi hR hW
      have Sm := hR.S S
      have Lm := hR.L S L
      have hrow := row_lt (M := 3) hK.2 (by decide) hp (show i < d.1.1 by omega)
      have hstep : ds_nS (fun k => V (119 + (p * d.1.1 + k))) i + V (119 + (p * d.1.1 + i)) = ds_nS (fun k => V (119 + (p * d.1.1 + k))) (i + 1) := rfl
      have hle : ds_nS (fun k => V (119 + (p * d.1.1 + k))) (i + 1) ≤ ds_nS (fun k => V (119 + (p * d.1.1 + k))) d.1.1 := ds_nS_le (by omega)
      have key0 := c_Ln_row (l := l) (D := D) (ca := ca) (j := p) (k := i) Sm Lm
      generalize hrr : p * d.1.1 + i = rr at *
      generalize hsu : ds_nS (fun k => V (119 + (p * d.1.1 + k))) i = su at *
      have g1 : va_up V 131 su 131 = su := va_up_self _ _ _
      have g2 : va_up V 131 su (119 + rr) = V (119 + rr) := va_up_ne _ _ (by omega)
      have key2 := w_add (l := l) (D := D) (ca := ca) (i := 131) (j := 119 + rr) (F := 1) Sm hW (by decide) (by omega) (by omega) (by decide) (by rw [g1, g2, Nat.one_mul]; omega)
      rw [g1, g2, Nat.one_mul, vuu, hstep] at key2
      refine jm_run hX [(10, [0, 1, 2, 3])] 30 ?_
      refine And.intro (o1 Sm) (And.intro (fun g => ?_) (fun _ => ?_))
      · have g : m.2.2.1 (ad 1) 0 ≤ nI i := g
        rw [Lm.1] at g
        exact absurd g (nI_ge (by omega) (by omega))
      refine And.intro (o3 Sm) ⟨some (ad 362), rs Sm, And.intro (o3 Sm) ⟨some (ad 41), ra Sm, ?_⟩⟩
      refine And.intro (o1 Sm) (And.intro (Nat.le_of_ble_eq_true rfl) (And.intro (Nat.le_of_ble_eq_true rfl) ⟨0, 0, _, Nat.le_refl _, Nat.le_refl _, key0, fun v m' hq => ?_⟩))
      obtain ⟨ee, rfl⟩ := hq
      have ee := ee.symm
      subst ee
      refine And.intro (o41 Sm) (And.intro (vin_of (l41 Sm) hrow (by decide)) ⟨some (ad (100 + 2 * (119 + rr))), ?_, ?_⟩)
      · rw [nI_c (by omega), ← e41]; exact Sm.2.2.2.2.2.2.2.2.1 rr hrow
      refine And.intro (Sm.wh 131 (by decide)).1 (And.intro (Nat.le_of_ble_eq_true rfl) (And.intro (Nat.le_of_ble_eq_true rfl) ⟨0, 0, _, Nat.le_refl _, Nat.le_refl _, key2, fun v m1 hq => ?_⟩))
      obtain ⟨rfl, hR1, hW1⟩ := hq
      have kk := ih (i + 1) m1 (by omega) (hR.tr hR1) hW1
      rw [← nI_1] at kk
      exact kk
  have key1 := w_b1 (l := l) (D := D) (ca := ca) (i := 131) (x := 0) S hV (by decide) (by decide)
  refine jm_run hX [(10, [0, 1, 2, 3])] 20 ?_
  refine And.intro (o3 S) ⟨some (ad 362), rs S, ?_⟩
  refine And.intro (S.wh 131 (by decide)).1 (And.intro (Nat.le_of_ble_eq_true rfl) (And.intro (Nat.le_of_ble_eq_true rfl) ⟨0, 0, _, Nat.le_refl _, Nat.le_refl _, key1, fun v m1 hq => ?_⟩))
  obtain ⟨rfl, hR1, hW1⟩ := hq
  exact loop d.1.1 0 m1 (by omega) hR1 hW1
theorem c_So_compareLoad {m0 : jm_M} {ad V : Nat → Nat} {j g : Nat} (S : SST m0 ad) (hV : WV m0 ad V) (hj : j < 3) (hg : g < 1073741824) (hb : g * V 118 < wB ^ 13) : jm_C l D ca n_So_compareLoad [.ref (ad 3), .int (nI j), .long (lN g)] m0 0 0 (fun v m' => v = some (.int (cmpI (V (128 + j)) (g * V 118))) ∧ FRW ad m0 m' ∧ WV m' ad (va_up V 131 (g * V 118))) := by
  refine jm_C_of (cd := cd_So_compareLoad) (ini := false) (by decide +kernel) ok_So_compareLoad (fun h => by cases h) (Nat.le_of_ble_eq_true rfl) ?_
  intro X hX
  have o3 : ∀ {m' : jm_M}, SST m' ad → jm_ok m' (ad 3) 3 := fun S => S.ok 3 (Or.inl (by decide))
  have rs : ∀ {m' : jm_M}, SST m' ad → m'.2.2.2.2 (ad 3) 6 = some (ad 362) := fun S => S.2.2.1 (3, 6, 362) (by decide)
  have rb : ∀ {m' : jm_M}, SST m' ad → m'.2.2.2.2 (ad 3) 3 = some (ad 336) := fun S => S.2.2.1 (3, 3, 336) (by decide)
  have rl : ∀ {m' : jm_M}, SST m' ad → m'.2.2.2.2 (ad 3) 5 = some (ad 42) := fun S => S.2.2.1 (3, 5, 42) (by decide)
  have o42 : ∀ {m' : jm_M}, SST m' ad → jm_ok m' (ad 42) 53 := fun S => S.ok 42 (Or.inl (by decide))
  have l42 : ∀ {m' : jm_M}, SST m' ad → (m'.2.1 (ad 42)).2 = 3 := fun S => S.len 42 (Or.inl (by decide))
  have key1 := w_b1 (l := l) (D := D) (ca := ca) (i := 131) (x := 0) S hV (by decide) (by decide)
  refine jm_run hX [] 30 ?_
  refine And.intro (o3 S) ⟨some (ad 362), rs S, ?_⟩
  refine And.intro (S.wh 131 (by decide)).1 (And.intro (Nat.le_of_ble_eq_true rfl) (And.intro (Nat.le_of_ble_eq_true rfl) ⟨0, 0, _, Nat.le_refl _, Nat.le_refl _, key1, fun v m1 hq => ?_⟩))
  obtain ⟨rfl, hR1, hW1⟩ := hq
  have S1 := hR1.S S
  have g1 : va_up V 131 0 131 = 0 := va_up_self _ _ _
  have g2 : va_up V 131 0 118 = V 118 := va_up_ne _ _ (by decide)
  have key2 := w_add (l := l) (D := D) (ca := ca) (i := 131) (j := 118) (F := g) S1 hW1 (by decide) (by decide) (by decide) hg (by rw [g1, g2, Nat.zero_add]; exact hb)
  rw [g1, g2, Nat.zero_add, vuu] at key2
  refine And.intro (o3 S1) ⟨some (ad 362), rs S1, And.intro (o3 S1) ⟨some (ad 336), rb S1, ?_⟩⟩
  refine And.intro (S1.wh 131 (by decide)).1 (And.intro (Nat.le_of_ble_eq_true rfl) (And.intro (Nat.le_of_ble_eq_true rfl) ⟨0, 0, _, Nat.le_refl _, Nat.le_refl _, key2, fun v m2 hq => ?_⟩))
  obtain ⟨rfl, hR2, hW2⟩ := hq
  have S2 := hR2.S S1
  have key3 := w_cmp (l := l) (D := D) (ca := ca) (i := 128 + j) (j := 131) S2 hW2 (by omega) (by decide)
  rw [va_up_self, va_up_ne _ _ (show 128 + j ≠ 131 by omega)] at key3
  refine And.intro (o3 S2) ⟨some (ad 42), rl S2, And.intro (o42 S2) (And.intro (vin_of (l42 S2) hj (by decide)) ⟨some (ad (100 + 2 * (128 + j))), ?_, ?_⟩)⟩
  · rw [nI_c (by omega), ← e42]; exact S2.2.2.2.2.2.2.2.2.2 j hj
  refine And.intro (o3 S2) ⟨some (ad 362), rs S2, ?_⟩
  refine And.intro (S2.wh (128 + j) (by omega)).1 (And.intro (Nat.le_of_ble_eq_true rfl) (And.intro (Nat.le_of_ble_eq_true rfl) ⟨0, 0, _, Nat.le_refl _, Nat.le_refl _, key3, fun v m3 hq => ?_⟩))
  obtain ⟨ee, rfl⟩ := hq
  have ee := ee.symm
  subst ee
  exact ⟨Nat.le_refl _, Nat.le_refl _, trivial, rfl, hR1.tr hR2, hW2⟩
end SO
