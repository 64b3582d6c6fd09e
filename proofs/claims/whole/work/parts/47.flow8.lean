theorem ds_nS_le {f : Nat → Nat} {i n : Nat} (h : i ≤ n) : ds_nS f i ≤ ds_nS f n := by
  induction n with
  | zero => rw [show i = 0 by omega]; exact Nat.le_refl _
  | succ n ih =>
    by_cases e : i = n + 1
    · rw [e]; exact Nat.le_refl _
    · exact Nat.le_trans (ih (by omega)) (Nat.le_add_right _ _)
theorem vuu {α : Type} (f : Nat → α) (a : Nat) (x y : α) : va_up (va_up f a x) a y = va_up f a y := by
  funext b
  by_cases h : b = a
  · subst h; rw [va_up_self, va_up_self]
  · rw [va_up_ne _ _ h, va_up_ne _ _ h, va_up_ne _ _ h]
/-- what comes to row pr of the ports -/
def amt (F : Nat → Nat → Nat) (V : Nat → Nat) (pr col n : Nat) : Nat := ds_nS (fun i => F (27 + pr) i * V (12 * i + col)) n
def ldA (F : Nat → Nat → Nat) (V : Nat → Nat) (r0 n K : Nat) : Nat := ds_nS (fun k => F 15 (r0 + k) * V (12 * (r0 + k) + n)) K
def psA (F : Nat → Nat → Nat) (V : Nat → Nat) (t r0 n K : Nat) : Nat := ds_nS (fun k => F (37 + t) (r0 + k) * V (12 * (r0 + k) + n)) K
section FL8
variable {l : Launch} {D : va_G} {ca : Nat → ClassId}
theorem c_Fl_addAtPort {m0 : jm_M} {ad V : Nat → Nat} {d : LD} {F : Nat → Nat → Nat} {p k col x n : Nat} (S : SST m0 ad) (L : LnV m0 ad d) (hF : FlV m0 ad F) (hV : WV m0 ad V) (hsz : m0.2.2.1 (ad 2) 3 = nI n) (hn : n ≤ 9) (hr : p * d.1.1 + k < 9) (hcol : col < 12) (hx : 108 ≤ x) (hx2 : x < 132) (hFb : ∀ i, i < n → F (27 + (p * d.1.1 + k)) i < 1073741824) (hb : V x + amt F V (p * d.1.1 + k) col n < wB ^ 13) : jm_C l D ca n_Fl_addAtPort [.ref (ad 2), .int (nI p), .int (nI k), .int (nI col), .ref (ad (100 + 2 * x))] m0 0 0 (fun v m' => v = none ∧ FRW ad m0 m' ∧ WV m' ad (va_up V x (V x + amt F V (p * d.1.1 + k) col n))) := by
  refine jm_C_of (cd := cd_Fl_addAtPort) (ini := false) (by decide +kernel) ok_Fl_addAtPort (fun h => by cases h) (Nat.le_of_ble_eq_true rfl) ?_
  intro X hX
  have key0 := c_Ln_row (l := l) (D := D) (ca := ca) (j := p) (k := k) S L
  generalize hpr : p * d.1.1 + k = pr at *
  have o2 : ∀ {m' : jm_M}, SST m' ad → jm_ok m' (ad 2) 1 := fun S => S.ok 2 (Or.inl (by decide))
  have o1 : jm_ok m0 (ad 1) 2 := S.ok 1 (Or.inl (by decide))
  have r1 : m0.2.2.2.2 (ad 2) 2 = some (ad 1) := S.2.2.1 (2, 2, 1) (by decide)
  have ht : fk (27 + pr) := fk_l hr
  have loop : ∀ (e i : Nat) (m : jm_M), i + e = n → FRW ad m0 m → WV m ad (va_up V x (V x + amt F V pr col i)) → X 14 [(0, .ref (ad 2)), (3, .int (nI col)), (4, .ref (ad (100 + 2 * x))), (5, .int (nI pr)), (6, .int (nI i))] [] m 0 0 := by
    intro e
    induction e with
    | zero =>
      intro i m hi hR hW
      have Sm := hR.S S
      have hs : m.2.2.1 (ad 2) 3 = nI n := by rw [hR.I S (by decide)]; exact hsz
      have ein : i = n := by omega
      subst ein
      refine jm_run hX [] 20 ?_
      refine And.intro (o2 Sm) (And.intro (fun _ => ⟨Nat.le_refl _, Nat.le_refl _, trivial, rfl, hR, hW⟩) (fun g => ?_))
      have g : ¬ m.2.2.1 (ad 2) 3 ≤ nI i := g
      rw [hs] at g
      exact absurd (nI_le (by omega) (by omega)) g
    | succ e ih =>
      intro i m hi hR hW
      have Sm := hR.S S
      have hs : m.2.2.1 (ad 2) 3 = nI n := by rw [hR.I S (by decide)]; exact hsz
      have hFm := hR.F S hF
      have o26 : jm_ok m (ad 26) 54 := Sm.ok 26 (Or.inl (by decide))
      have r26 : m.2.2.2.2 (ad 2) 6 = some (ad 26) := Sm.2.2.1 (2, 6, 26) (by decide)
      have l26 : (m.2.1 (ad 26)).2 = 9 := Sm.len 26 (Or.inl (by decide))
      have q := fkok Sm ht
      have hFi := hFb i (by omega)
      have ev : (m.2.2.1 (ad (27 + pr)) (nI i).toNatClampNeg).toInt64 = lN (F (27 + pr) i) := by
        rw [nI_c (by omega), hFm.get ht (by omega) rfl, nI_l (by omega)]
      have key1 := c_Fl_cell (l := l) (D := D) (ca := ca) (r := i) (c := col) Sm (by omega)
      have g1 : va_up V x (V x + amt F V pr col i) x = V x + amt F V pr col i := va_up_self _ _ _
      have g2 : va_up V x (V x + amt F V pr col i) (12 * i + col) = V (12 * i + col) := va_up_ne _ _ (by omega)
      have hstep : amt F V pr col i + F (27 + pr) i * V (12 * i + col) = amt F V pr col (i + 1) := rfl
      have hle : amt F V pr col (i + 1) ≤ amt F V pr col n := ds_nS_le (by omega)
      have key2 := w_add (l := l) (D := D) (ca := ca) (i := x) (j := 12 * i + col) (F := F (27 + pr) i) Sm hW hx2 (by omega) (by omega) hFi (by rw [g1, g2]; omega)
      rw [g1, g2, vuu, Nat.add_assoc, hstep, ← ev] at key2
      refine jm_run hX [(14, [0, 3, 4, 5, 6])] 30 ?_
      refine And.intro (o2 Sm) (And.intro (fun g => ?_) (fun _ => ?_))
      · have g : m.2.2.1 (ad 2) 3 ≤ nI i := g
        rw [hs] at g
        exact absurd g (nI_ge (by omega) (by omega))
      refine And.intro (o2 Sm) (And.intro (Nat.le_of_ble_eq_true rfl) (And.intro (Nat.le_of_ble_eq_true rfl) ⟨0, 0, _, Nat.le_refl _, Nat.le_refl _, key1, fun v m' hq => ?_⟩))
      obtain ⟨ee, rfl⟩ := hq
      have ee := ee.symm
      subst ee
      refine And.intro (o2 Sm) ⟨some (ad 26), r26, And.intro o26 (And.intro (vin_of l26 hr (by decide)) ⟨some (ad (27 + pr)), ?_, ?_⟩)⟩
      · rw [nI_c (by omega)]; exact Sm.2.2.2.2.2.1 pr hr
      refine And.intro q.1 (And.intro (vin_of q.2 (by omega) (by decide)) ?_)
      refine And.intro (Sm.wh x hx2).1 (And.intro (Nat.le_of_ble_eq_true rfl) (And.intro (Nat.le_of_ble_eq_true rfl) ⟨0, 0, _, Nat.le_refl _, Nat.le_refl _, key2, fun v m1 hq => ?_⟩))
      obtain ⟨rfl, hR1, hW1⟩ := hq
      have kk := ih (i + 1) m1 (by omega) (hR.tr hR1) hW1
      rw [← nI_1] at kk
      exact kk
  refine jm_run hX [(14, [0, 3, 4, 5, 6])] 20 ?_
  refine And.intro (o2 S) ⟨some (ad 1), r1, ?_⟩
  refine And.intro o1 (And.intro (Nat.le_of_ble_eq_true rfl) (And.intro (Nat.le_of_ble_eq_true rfl) ⟨0, 0, _, Nat.le_refl _, Nat.le_refl _, key0, fun v m' hq => ?_⟩))
  obtain ⟨ee, rfl⟩ := hq
  have ee := ee.symm
  subst ee
  refine loop n 0 m0 (by omega) FRW.rf ?_
  show WV m0 ad (va_up V x (V x + 0))
  rw [Nat.add_zero, va_up_id]; exact hV
theorem c_Fl_putAtPort {m0 : jm_M} {ad V : Nat → Nat} {d : LD} {F : Nat → Nat → Nat} {p k x n : Nat} (S : SST m0 ad) (L : LnV m0 ad d) (hF : FlV m0 ad F) (hV : WV m0 ad V) (hsz : m0.2.2.1 (ad 2) 3 = nI n) (hn : n ≤ 9) (hr : p * d.1.1 + k < 9) (hx : 108 ≤ x) (hx2 : x < 132) (hFb : ∀ i, i < n → F (27 + (p * d.1.1 + k)) i < 1073741824) (hb : amt F V (p * d.1.1 + k) n n < wB ^ 13) : jm_C l D ca n_Fl_putAtPort [.ref (ad 2), .int (nI p), .int (nI k), .ref (ad (100 + 2 * x))] m0 0 0 (fun v m' => v = none ∧ FRW ad m0 m' ∧ WV m' ad (va_up V x (amt F V (p * d.1.1 + k) n n))) := by
  refine jm_C_of (cd := cd_Fl_putAtPort) (ini := false) (by decide +kernel) ok_Fl_putAtPort (fun h => by cases h) (Nat.le_of_ble_eq_true rfl) ?_
  intro X hX
  have o2 : ∀ {m' : jm_M}, SST m' ad → jm_ok m' (ad 2) 1 := fun S => S.ok 2 (Or.inl (by decide))
  have key1 := w_b1 (l := l) (D := D) (ca := ca) (i := x) (x := 0) S hV hx2 (by decide)
  refine jm_run hX [] 20 ?_
  refine And.intro (S.wh x hx2).1 (And.intro (Nat.le_of_ble_eq_true rfl) (And.intro (Nat.le_of_ble_eq_true rfl) ⟨0, 0, _, Nat.le_refl _, Nat.le_refl _, key1, fun v m1 hq => ?_⟩))
  obtain ⟨rfl, hR1, hW1⟩ := hq
  have S1 := hR1.S S
  have hs1 : m1.2.2.1 (ad 2) 3 = nI n := by rw [hR1.I S (by decide)]; exact hsz
  have ea : amt F (va_up V x 0) (p * d.1.1 + k) n n = amt F V (p * d.1.1 + k) n n := ds_nS_congr (fun i hi => by rw [va_up_ne _ _ (by omega)])
  have key2 := c_Fl_addAtPort (l := l) (D := D) (ca := ca) (p := p) (k := k) (col := n) (x := x) S1 (hR1.L S L) (hR1.F S hF) hW1 hs1 hn hr (by omega) hx hx2 hFb (by rw [va_up_self, ea, Nat.zero_add]; exact hb)
  rw [va_up_self, ea, Nat.zero_add, vuu] at key2
  refine And.intro (o2 S1) ?_
  refine And.intro (o2 S1) (And.intro (Nat.le_of_ble_eq_true rfl) (And.intro (Nat.le_of_ble_eq_true rfl) ⟨0, 0, _, Nat.le_refl _, Nat.le_refl _, (by rw [hs1]; exact key2), fun v m2 hq => ?_⟩))
  obtain ⟨rfl, hR2, hW2⟩ := hq
  exact ⟨Nat.le_refl _, Nat.le_refl _, trivial, rfl, hR1.tr hR2, hW2⟩
theorem c_Fl_putLoad {m0 : jm_M} {ad V : Nat → Nat} {d : LD} {F : Nat → Nat → Nat} {j x n : Nat} (S : SST m0 ad) (L : LnV m0 ad d) (hO : LOK d) (hF : FlV m0 ad F) (hV : WV m0 ad V) (hsz : m0.2.2.1 (ad 2) 3 = nI n) (hn : n ≤ 9) (hj : j < d.1.2.1) (hx : 108 ≤ x) (hx2 : x < 132) (hFb : ∀ i, i < d.1.1 → F 15 (j * d.1.1 + i) < 1073741824) (hb : ldA F V (j * d.1.1) n d.1.1 < wB ^ 13) : jm_C l D ca n_Fl_putLoad [.ref (ad 2), .int (nI j), .ref (ad (100 + 2 * x))] m0 0 0 (fun v m' => v = none ∧ FRW ad m0 m' ∧ WV m' ad (va_up V x (ldA F V (j * d.1.1) n d.1.1))) := by
  refine jm_C_of (cd := cd_Fl_putLoad) (ini := false) (by decide +kernel) ok_Fl_putLoad (fun h => by cases h) (Nat.le_of_ble_eq_true rfl) ?_
  intro X hX
  have hK := hO.1
  have hM := hO.2.1
  have o2 : ∀ {m' : jm_M}, SST m' ad → jm_ok m' (ad 2) 1 := fun S => S.ok 2 (Or.inl (by decide))
  have o1 : ∀ {m' : jm_M}, SST m' ad → jm_ok m' (ad 1) 2 := fun S => S.ok 1 (Or.inl (by decide))
  have r1 : ∀ {m' : jm_M}, SST m' ad → m'.2.2.2.2 (ad 2) 2 = some (ad 1) := fun S => S.2.2.1 (2, 2, 1) (by decide)
  have ht : fk 15 := Or.inl rfl
  have loop : ∀ (e i : Nat) (m : jm_M), i + e = d.1.1 → FRW ad m0 m → WV m ad (va_up V x (ldA F V (j * d.1.1) n i)) → X 7 [(0, .ref (ad 2)), (1, .int (nI j)), (2, .ref (ad (100 + 2 * x))), (3, .int (nI i))] [] m 0 0 := by
    intro e
    induction e with
    | zero =>
      intro i m hi hR hW
      have Sm := hR.S S
      have Lm := hR.L S L
      have ein : i = d.1.1 := by omega
      refine jm_run hX [] 20 ?_
      refine And.intro (o2 Sm) ⟨some (ad 1), r1 Sm, And.intro (o1 Sm) (And.intro (fun _ => ⟨Nat.le_refl _, Nat.le_refl _, trivial, rfl, hR, ?_⟩) (fun g => ?_))⟩
      · rw [ein] at hW; exact hW
      have g : ¬ m.2.2.1 (ad 1) 0 ≤ nI i := g
      rw [Lm.1] at g
      exact absurd (nI_le (by omega) (by omega)) g
    | succ e ih =>
      intro i m hi hR hW
      have Sm := hR.S S
      have Lm := hR.L S L
      have hrow := row_lt hK.2 hM hj (show i < d.1.1 by omega)
      have hs : m.2.2.1 (ad 2) 3 = nI n := by rw [hR.I S (by decide)]; exact hsz
      have hFm := hR.F S hF
      have r15 : m.2.2.2.2 (ad 2) 4 = some (ad 15) := Sm.2.2.1 (2, 4, 15) (by decide)
      have q := fkok Sm ht
      have hFi := hFb i (by omega)
      have ev : (m.2.2.1 (ad 15) (nI (j * d.1.1 + i)).toNatClampNeg).toInt64 = lN (F 15 (j * d.1.1 + i)) := by
        rw [nI_c (by omega), hFm.get ht (by omega) rfl, nI_l (by omega)]
      have key0 := c_Ln_row (l := l) (D := D) (ca := ca) (j := j) (k := i) Sm Lm
      have hstep : ldA F V (j * d.1.1) n i + F 15 (j * d.1.1 + i) * V (12 * (j * d.1.1 + i) + n) = ldA F V (j * d.1.1) n (i + 1) := rfl
      generalize hrr : j * d.1.1 + i = rr at *
      have key1 := c_Fl_cell (l := l) (D := D) (ca := ca) (r := rr) (c := n) Sm (by omega)
      have g1 : va_up V x (ldA F V (j * d.1.1) n i) x = ldA F V (j * d.1.1) n i := va_up_self _ _ _
      have g2 : va_up V x (ldA F V (j * d.1.1) n i) (12 * rr + n) = V (12 * rr + n) := va_up_ne _ _ (by omega)
      have hle : ldA F V (j * d.1.1) n (i + 1) ≤ ldA F V (j * d.1.1) n d.1.1 := ds_nS_le (by omega)
      have key2 := w_add (l := l) (D := D) (ca := ca) (i := x) (j := 12 * rr + n) (F := F 15 rr) Sm hW hx2 (by omega) (by omega) hFi (by rw [g1, g2]; omega)
      rw [g1, g2, vuu, hstep, ← ev] at key2
      refine jm_run hX [(7, [0, 1, 2, 3])] 40 ?_
      refine And.intro (o2 Sm) ⟨some (ad 1), r1 Sm, And.intro (o1 Sm) (And.intro (fun g => ?_) (fun _ => ?_))⟩
      · have g : m.2.2.1 (ad 1) 0 ≤ nI i := g
        rw [Lm.1] at g
        exact absurd g (nI_ge (by omega) (by omega))
      refine And.intro (o2 Sm) ⟨some (ad 1), r1 Sm, ?_⟩
      refine And.intro (o1 Sm) (And.intro (Nat.le_of_ble_eq_true rfl) (And.intro (Nat.le_of_ble_eq_true rfl) ⟨0, 0, _, Nat.le_refl _, Nat.le_refl _, key0, fun v m' hq => ?_⟩))
      obtain ⟨ee, rfl⟩ := hq
      have ee := ee.symm
      subst ee
      refine And.intro (o2 Sm) ?_
      refine And.intro (o2 Sm) (And.intro (Nat.le_of_ble_eq_true rfl) (And.intro (Nat.le_of_ble_eq_true rfl) ⟨0, 0, _, Nat.le_refl _, Nat.le_refl _, (by rw [hs]; exact key1), fun v m' hq => ?_⟩))
      obtain ⟨ee, rfl⟩ := hq
      have ee := ee.symm
      subst ee
      refine And.intro (o2 Sm) ⟨some (ad 15), r15, And.intro q.1 (And.intro (vin_of q.2 (by omega) (by decide)) ?_)⟩
      refine And.intro (Sm.wh x hx2).1 (And.intro (Nat.le_of_ble_eq_true rfl) (And.intro (Nat.le_of_ble_eq_true rfl) ⟨0, 0, _, Nat.le_refl _, Nat.le_refl _, key2, fun v m1 hq => ?_⟩))
      obtain ⟨rfl, hR1, hW1⟩ := hq
      have kk := ih (i + 1) m1 (by omega) (hR.tr hR1) hW1
      rw [← nI_1] at kk
      exact kk
  have key1 := w_b1 (l := l) (D := D) (ca := ca) (i := x) (x := 0) S hV hx2 (by decide)
  refine jm_run hX [(7, [0, 1, 2, 3])] 20 ?_
  refine And.intro (S.wh x hx2).1 (And.intro (Nat.le_of_ble_eq_true rfl) (And.intro (Nat.le_of_ble_eq_true rfl) ⟨0, 0, _, Nat.le_refl _, Nat.le_refl _, key1, fun v m1 hq => ?_⟩))
  obtain ⟨rfl, hR1, hW1⟩ := hq
  exact loop d.1.1 0 m1 (by omega) hR1 hW1
theorem c_Fl_putPassing {m0 : jm_M} {ad V : Nat → Nat} {d : LD} {F : Nat → Nat → Nat} {j t x n : Nat} (S : SST m0 ad) (L : LnV m0 ad d) (hO : LOK d) (hF : FlV m0 ad F) (hV : WV m0 ad V) (hsz : m0.2.2.1 (ad 2) 3 = nI n) (hn : n ≤ 9) (hj : j < d.1.2.1) (ht3 : t < 3) (hx : 108 ≤ x) (hx2 : x < 132) (hFb : ∀ i, i < d.1.1 → F (37 + t) (j * d.1.1 + i) < 1073741824) (hb : psA F V t (j * d.1.1) n d.1.1 < wB ^ 13) : jm_C l D ca n_Fl_putPassing [.ref (ad 2), .int (nI j), .int (nI t), .ref (ad (100 + 2 * x))] m0 0 0 (fun v m' => v = none ∧ FRW ad m0 m' ∧ WV m' ad (va_up V x (psA F V t (j * d.1.1) n d.1.1))) := by
  refine jm_C_of (cd := cd_Fl_putPassing) (ini := false) (by decide +kernel) ok_Fl_putPassing (fun h => by cases h) (Nat.le_of_ble_eq_true rfl) ?_
  intro X hX
  have hK := hO.1
  have hM := hO.2.1
  have o2 : ∀ {m' : jm_M}, SST m' ad → jm_ok m' (ad 2) 1 := fun S => S.ok 2 (Or.inl (by decide))
  have o1 : ∀ {m' : jm_M}, SST m' ad → jm_ok m' (ad 1) 2 := fun S => S.ok 1 (Or.inl (by decide))
  have r1 : ∀ {m' : jm_M}, SST m' ad → m'.2.2.2.2 (ad 2) 2 = some (ad 1) := fun S => S.2.2.1 (2, 2, 1) (by decide)
  have ht : fk (37 + t) := fk_t ht3
  have loop : ∀ (e i : Nat) (m : jm_M), i + e = d.1.1 → FRW ad m0 m → WV m ad (va_up V x (psA F V t (j * d.1.1) n i)) → X 8 [(0, .ref (ad 2)), (1, .int (nI j)), (2, .int (nI t)), (3, .ref (ad (100 + 2 * x))), (4, .int (nI i))] [] m 0 0 := by
    intro e
    induction e with
    | zero =>
      intro i m hi hR hW
      have Sm := hR.S S
      have Lm := hR.L S L
      have ein : i = d.1.1 := by omega
      refine jm_run hX [] 20 ?_
      refine And.intro (o2 Sm) ⟨some (ad 1), r1 Sm, And.intro (o1 Sm) (And.intro (fun _ => ⟨Nat.le_refl _, Nat.le_refl _, trivial, rfl, hR, ?_⟩) (fun g => ?_))⟩
      · rw [ein] at hW; exact hW
      have g : ¬ m.2.2.1 (ad 1) 0 ≤ nI i := g
      rw [Lm.1] at g
      exact absurd (nI_le (by omega) (by omega)) g
    | succ e ih =>
      intro i m hi hR hW
      have Sm := hR.S S
      have Lm := hR.L S L
      have hrow := row_lt hK.2 hM hj (show i < d.1.1 by omega)
      have hs : m.2.2.1 (ad 2) 3 = nI n := by rw [hR.I S (by decide)]; exact hsz
      have hFm := hR.F S hF
      have o36 : jm_ok m (ad 36) 54 := Sm.ok 36 (Or.inl (by decide))
      have r36 : m.2.2.2.2 (ad 2) 7 = some (ad 36) := Sm.2.2.1 (2, 7, 36) (by decide)
      have l36 : (m.2.1 (ad 36)).2 = 3 := Sm.len 36 (Or.inl (by decide))
      have q := fkok Sm ht
      have hFi := hFb i (by omega)
      have ev : (m.2.2.1 (ad (37 + t)) (nI (j * d.1.1 + i)).toNatClampNeg).toInt64 = lN (F (37 + t) (j * d.1.1 + i)) := by
        rw [nI_c (by omega), hFm.get ht (by omega) rfl, nI_l (by omega)]
      have key0 := c_Ln_row (l := l) (D := D) (ca := ca) (j := j) (k := i) Sm Lm
      have hstep : psA F V t (j * d.1.1) n i + F (37 + t) (j * d.1.1 + i) * V (12 * (j * d.1.1 + i) + n) = psA F V t (j * d.1.1) n (i + 1) := rfl
      generalize hrr : j * d.1.1 + i = rr at *
      have key1 := c_Fl_cell (l := l) (D := D) (ca := ca) (r := rr) (c := n) Sm (by omega)
      have g1 : va_up V x (psA F V t (j * d.1.1) n i) x = psA F V t (j * d.1.1) n i := va_up_self _ _ _
      have g2 : va_up V x (psA F V t (j * d.1.1) n i) (12 * rr + n) = V (12 * rr + n) := va_up_ne _ _ (by omega)
      have hle : psA F V t (j * d.1.1) n (i + 1) ≤ psA F V t (j * d.1.1) n d.1.1 := ds_nS_le (by omega)
      have key2 := w_add (l := l) (D := D) (ca := ca) (i := x) (j := 12 * rr + n) (F := F (37 + t) rr) Sm hW hx2 (by omega) (by omega) hFi (by rw [g1, g2]; omega)
      rw [g1, g2, vuu, hstep, ← ev] at key2
      refine jm_run hX [(8, [0, 1, 2, 3, 4])] 40 ?_
      refine And.intro (o2 Sm) ⟨some (ad 1), r1 Sm, And.intro (o1 Sm) (And.intro (fun g => ?_) (fun _ => ?_))⟩
      · have g : m.2.2.1 (ad 1) 0 ≤ nI i := g
        rw [Lm.1] at g
        exact absurd g (nI_ge (by omega) (by omega))
      refine And.intro (o2 Sm) ⟨some (ad 1), r1 Sm, ?_⟩
      refine And.intro (o1 Sm) (And.intro (Nat.le_of_ble_eq_true rfl) (And.intro (Nat.le_of_ble_eq_true rfl) ⟨0, 0, _, Nat.le_refl _, Nat.le_refl _, key0, fun v m' hq => ?_⟩))
      obtain ⟨ee, rfl⟩ := hq
      have ee := ee.symm
      subst ee
      refine And.intro (o2 Sm) ?_
      refine And.intro (o2 Sm) (And.intro (Nat.le_of_ble_eq_true rfl) (And.intro (Nat.le_of_ble_eq_true rfl) ⟨0, 0, _, Nat.le_refl _, Nat.le_refl _, (by rw [hs]; exact key1), fun v m' hq => ?_⟩))
      obtain ⟨ee, rfl⟩ := hq
      have ee := ee.symm
      subst ee
      refine And.intro (o2 Sm) ⟨some (ad 36), r36, And.intro o36 (And.intro (vin_of l36 ht3 (by decide)) ⟨some (ad (37 + t)), ?_, ?_⟩)⟩
      · rw [nI_c (by omega)]; exact Sm.2.2.2.2.2.2.1 t ht3
      refine And.intro q.1 (And.intro (vin_of q.2 (by omega) (by decide)) ?_)
      refine And.intro (Sm.wh x hx2).1 (And.intro (Nat.le_of_ble_eq_true rfl) (And.intro (Nat.le_of_ble_eq_true rfl) ⟨0, 0, _, Nat.le_refl _, Nat.le_refl _, key2, fun v m1 hq => ?_⟩))
      obtain ⟨rfl, hR1, hW1⟩ := hq
      have kk := ih (i + 1) m1 (by omega) (hR.tr hR1) hW1
      rw [← nI_1] at kk
      exact kk
  have key1 := w_b1 (l := l) (D := D) (ca := ca) (i := x) (x := 0) S hV hx2 (by decide)
  refine jm_run hX [(8, [0, 1, 2, 3, 4])] 20 ?_
  refine And.intro (S.wh x hx2).1 (And.intro (Nat.le_of_ble_eq_true rfl) (And.intro (Nat.le_of_ble_eq_true rfl) ⟨0, 0, _, Nat.le_refl _, Nat.le_refl _, key1, fun v m1 hq => ?_⟩))
  obtain ⟨rfl, hR1, hW1⟩ := hq
  exact loop d.1.1 0 m1 (by omega) hR1 hW1
end FL8
