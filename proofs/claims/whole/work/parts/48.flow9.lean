def rch (d : LD) (F : Nat → Nat → Nat) (V : Nat → Nat) (to : Int32) (p col n : Nat) : Nat := if to.toInt = -2 - (p : Int) then V 108 else if 0 ≤ to.toInt then ds_nS (fun k => amt F V (p * d.1.1 + k) col n) d.1.1 else 0
theorem m2p_toInt {p : Nat} (hp : p < 2 ^ 30) : ((-2 : Int32) - nI p).toInt = -2 - (p : Int) := by
  have h2 : (-2 : Int32).toInt = -2 := by decide
  have h3 : (nI p).toInt = (p : Int) := nI_toInt (by omega)
  rw [Int32.toInt_sub, h2, h3]
  exact Int.bmod_eq_of_le (by omega) (by omega)
theorem cmp_lt {X Y : Nat} : cmpI X Y < 0 ↔ X < Y := by
  unfold cmpI
  by_cases h : X < Y
  · rw [if_pos h]; exact ⟨fun _ => h, fun _ => by decide⟩
  · rw [if_neg h]
    by_cases h2 : X = Y
    · rw [if_pos h2]; exact ⟨fun q => absurd q (by decide), fun q => absurd q h⟩
    · rw [if_neg h2]; exact ⟨fun q => absurd q (by decide), fun q => absurd q h⟩
section FL9
variable {l : Launch} {D : va_G} {ca : Nat → ClassId}
theorem c_Fl_bringsAtLeast {m0 : jm_M} {ad V : Nat → Nat} {d : LD} {F : Nat → Nat → Nat} {p k n g : Nat} (S : SST m0 ad) (L : LnV m0 ad d) (hF : FlV m0 ad F) (hV : WV m0 ad V) (hsz : m0.2.2.1 (ad 2) 3 = nI n) (hn : n ≤ 9) (hr : p * d.1.1 + k < 9) (hFb : ∀ i, i < n → F (27 + (p * d.1.1 + k)) i < 1073741824) (hb : amt F V (p * d.1.1 + k) n n < wB ^ 13) (hg : g < 1073741824) (hgb : g * V 108 < wB ^ 13) : jm_C l D ca n_Fl_bringsAtLeast [.ref (ad 2), .int (nI p), .int (nI k), .long (lN g)] m0 0 0 (fun v m' => v = some (.int (if amt F V (p * d.1.1 + k) n n < g * V 108 then 0 else 1)) ∧ FRW ad m0 m' ∧ ∃ V', WV m' ad V' ∧ ∀ i, i ≠ 109 → i ≠ 110 → V' i = V i) := by
  refine jm_C_of (cd := cd_Fl_bringsAtLeast) (ini := false) (by decide +kernel) ok_Fl_bringsAtLeast (fun h => by cases h) (Nat.le_of_ble_eq_true rfl) ?_
  intro X hX
  have o2 : ∀ {m' : jm_M}, SST m' ad → jm_ok m' (ad 2) 1 := fun S => S.ok 2 (Or.inl (by decide))
  have rb : ∀ {m' : jm_M}, SST m' ad → m'.2.2.2.2 (ad 2) 1 = some (ad 316) := fun S => S.2.2.1 (2, 1, 316) (by decide)
  have rf : ∀ {m' : jm_M}, SST m' ad → m'.2.2.2.2 (ad 2) 9 = some (ad 318) := fun S => S.2.2.1 (2, 9, 318) (by decide)
  have rs : ∀ {m' : jm_M}, SST m' ad → m'.2.2.2.2 (ad 2) 10 = some (ad 320) := fun S => S.2.2.1 (2, 10, 320) (by decide)
  have key1 := c_Fl_putAtPort (l := l) (D := D) (ca := ca) (p := p) (k := k) (x := 109) S L hF hV hsz hn hr (by decide) (by decide) hFb hb
  generalize hA : amt F V (p * d.1.1 + k) n n = A at *
  refine jm_run hX [] 40 ?_
  refine And.intro (o2 S) ⟨some (ad 318), rf S, ?_⟩
  refine And.intro (o2 S) (And.intro (Nat.le_of_ble_eq_true rfl) (And.intro (Nat.le_of_ble_eq_true rfl) ⟨0, 0, _, Nat.le_refl _, Nat.le_refl _, key1, fun v m1 hq => ?_⟩))
  obtain ⟨rfl, hR1, hW1⟩ := hq
  have S1 := hR1.S S
  have key2 := w_b1 (l := l) (D := D) (ca := ca) (i := 110) (x := 0) S1 hW1 (by decide) (by decide)
  refine And.intro (o2 S1) ⟨some (ad 320), rs S1, ?_⟩
  refine And.intro (S1.wh 110 (by decide)).1 (And.intro (Nat.le_of_ble_eq_true rfl) (And.intro (Nat.le_of_ble_eq_true rfl) ⟨0, 0, _, Nat.le_refl _, Nat.le_refl _, key2, fun v m2 hq => ?_⟩))
  obtain ⟨rfl, hR2, hW2⟩ := hq
  have S2 := hR2.S S1
  have g110 : va_up (va_up V 109 A) 110 0 110 = 0 := va_up_self _ _ _
  have g108 : va_up (va_up V 109 A) 110 0 108 = V 108 := by rw [va_up_ne _ _ (by decide), va_up_ne _ _ (by decide)]
  have key3 := w_add (l := l) (D := D) (ca := ca) (i := 110) (j := 108) (F := g) S2 hW2 (by decide) (by decide) (by decide) hg (by rw [g110, g108, Nat.zero_add]; exact hgb)
  rw [g110, g108, Nat.zero_add, vuu] at key3
  refine And.intro (o2 S2) ⟨some (ad 320), rs S2, And.intro (o2 S2) ⟨some (ad 316), rb S2, ?_⟩⟩
  refine And.intro (S2.wh 110 (by decide)).1 (And.intro (Nat.le_of_ble_eq_true rfl) (And.intro (Nat.le_of_ble_eq_true rfl) ⟨0, 0, _, Nat.le_refl _, Nat.le_refl _, key3, fun v m3 hq => ?_⟩))
  obtain ⟨rfl, hR3, hW3⟩ := hq
  have S3 := hR3.S S2
  have key4 := w_cmp (l := l) (D := D) (ca := ca) (i := 109) (j := 110) S3 hW3 (by decide) (by decide)
  rw [va_up_self, va_up_ne _ _ (show 109 ≠ 110 by decide), va_up_self] at key4
  refine And.intro (o2 S3) ⟨some (ad 318), rf S3, And.intro (o2 S3) ⟨some (ad 320), rs S3, ?_⟩⟩
  refine And.intro (S3.wh 109 (by decide)).1 (And.intro (Nat.le_of_ble_eq_true rfl) (And.intro (Nat.le_of_ble_eq_true rfl) ⟨0, 0, _, Nat.le_refl _, Nat.le_refl _, key4, fun v m4 hq => ?_⟩))
  obtain ⟨ee, rfl⟩ := hq
  have ee := ee.symm
  subst ee
  have hV' : ∃ V', WV m3 ad V' ∧ ∀ i, i ≠ 109 → i ≠ 110 → V' i = V i := ⟨_, hW3, fun i h1 h2 => by rw [va_up_ne _ _ h2, va_up_ne _ _ h1]⟩
  refine And.intro (fun q => ?_) (fun q => ?_)
  · rw [cmp_lt] at q
    exact ⟨Nat.le_refl _, Nat.le_refl _, Or.inl rfl, by rw [if_pos q], hR1.tr (hR2.tr hR3), hV'⟩
  · rw [cmp_lt] at q
    exact ⟨Nat.le_refl _, Nat.le_refl _, Or.inr rfl, by rw [if_neg q], hR1.tr (hR2.tr hR3), hV'⟩
/-- a gram at one row alone -/
theorem c_Fl_putGram {m0 : jm_M} {ad V : Nat → Nat} {d : LD} {k col n : Nat} {tv : Int32} (S : SST m0 ad) (L : LnV m0 ad d) (hO : LOK d) (hV : WV m0 ad V) (hsz : m0.2.2.1 (ad 2) 3 = nI n) (hn : n ≤ 9) (hk : k < d.1.1) (hcol : col < 12) (htv : jOK d.1.2.1 d.1.2.2 tv) : jm_C l D ca n_Fl_putGram [.ref (ad 2), .int tv, .int (nI k), .int (nI col)] m0 0 0 (fun v m' => v = none ∧ FRW ad m0 m' ∧ ∃ V', WV m' ad V' ∧ (∀ i, i < n → V' (12 * i + col) = if 0 ≤ tv.toInt ∧ i = tv.toInt.toNat * d.1.1 + k then 1 else 0) ∧ ∀ x, x < 132 → (x < 108 → x % 12 ≠ col) → V' x = V x) := by
  refine jm_C_of (cd := cd_Fl_putGram) (ini := false) (by decide +kernel) ok_Fl_putGram (fun h => by cases h) (Nat.le_of_ble_eq_true rfl) ?_
  intro X hX
  have hK := hO.1
  have hM := hO.2.1
  have o2 : ∀ {m' : jm_M}, SST m' ad → jm_ok m' (ad 2) 1 := fun S => S.ok 2 (Or.inl (by decide))
  have o1 : ∀ {m' : jm_M}, SST m' ad → jm_ok m' (ad 1) 2 := fun S => S.ok 1 (Or.inl (by decide))
  have r1 : ∀ {m' : jm_M}, SST m' ad → m'.2.2.2.2 (ad 2) 2 = some (ad 1) := fun S => S.2.2.1 (2, 2, 1) (by decide)
  have last : ∀ (m : jm_M) (W : Nat → Nat), FRW ad m0 m → WV m ad W → (∀ i, i < n → W (12 * i + col) = 0) → (∀ x, x < 132 → (x < 108 → x % 12 ≠ col) → W x = V x) → X 29 [(0, .ref (ad 2)), (1, .int tv), (2, .int (nI k)), (3, .int (nI col))] [] m 0 0 := by
    intro m W hR hW h0 hs
    have Sm := hR.S S
    have Lm := hR.L S L
    refine jm_run hX [] 30 ?_
    refine And.intro (fun g => ?_) (fun g => ?_)
    · rw [ilt0] at g
      exact ⟨Nat.le_refl _, Nat.le_refl _, trivial, rfl, hR, W, hW, fun i hi => by rw [if_neg (by omega)]; exact h0 i hi, hs⟩
    · rw [ilt0] at g
      have et : tv = nI tv.toInt.toNat := i_of (by omega)
      have hp3 : tv.toInt.toNat < d.1.2.1 := by unfold jOK at htv; rcases htv with q | q | q <;> omega
      have hr2 := row_lt hK.2 hM hp3 hk
      have key3 := c_Ln_row (l := l) (D := D) (ca := ca) (j := tv.toInt.toNat) (k := k) Sm Lm
      rw [← et] at key3
      generalize hrr : tv.toInt.toNat * d.1.1 + k = rr at *
      have key4 := c_Fl_cell (l := l) (D := D) (ca := ca) (r := rr) (c := col) Sm (by omega)
      have key5 := w_b1 (l := l) (D := D) (ca := ca) (i := 12 * rr + col) (x := 1) Sm hW (by omega) (by decide)
      refine And.intro (o2 Sm) ⟨some (ad 1), r1 Sm, ?_⟩
      refine And.intro (o1 Sm) (And.intro (Nat.le_of_ble_eq_true rfl) (And.intro (Nat.le_of_ble_eq_true rfl) ⟨0, 0, _, Nat.le_refl _, Nat.le_refl _, key3, fun v m' hq => ?_⟩))
      obtain ⟨ee, rfl⟩ := hq
      have ee := ee.symm
      subst ee
      refine And.intro (o2 Sm) (And.intro (Nat.le_of_ble_eq_true rfl) (And.intro (Nat.le_of_ble_eq_true rfl) ⟨0, 0, _, Nat.le_refl _, Nat.le_refl _, key4, fun v m' hq => ?_⟩))
      obtain ⟨ee, rfl⟩ := hq
      have ee := ee.symm
      subst ee
      refine And.intro (Sm.wh (12 * rr + col) (by omega)).1 (And.intro (Nat.le_of_ble_eq_true rfl) (And.intro (Nat.le_of_ble_eq_true rfl) ⟨0, 0, _, Nat.le_refl _, Nat.le_refl _, key5, fun v m1 hq => ?_⟩))
      obtain ⟨rfl, hR1, hW1⟩ := hq
      refine ⟨Nat.le_refl _, Nat.le_refl _, trivial, rfl, hR.tr hR1, _, hW1, fun i hi => ?_, fun x hx hxc => ?_⟩
      · by_cases e : i = rr
        · subst e; rw [va_up_self, if_pos ⟨by omega, rfl⟩]
        · rw [va_up_ne _ _ (by omega), if_neg (fun q => e q.2)]; exact h0 i hi
      · rw [va_up_ne _ _ (by omega)]; exact hs x hx hxc
  have loop : ∀ (e i : Nat) (m : jm_M) (W : Nat → Nat), i + e = n → FRW ad m0 m → WV m ad W → (∀ i', i' < i → W (12 * i' + col) = 0) → (∀ x, x < 132 → (x < 108 → x % 12 ≠ col) → W x = V x) → X 3 [(0, .ref (ad 2)), (1, .int tv), (2, .int (nI k)), (3, .int (nI col)), (4, .int (nI i))] [] m 0 0 := by
    intro e
    induction e with
    | zero =>
      intro i m W hi hR hW h0 hs
      have Sm := hR.S S
      have hsz : m.2.2.1 (ad 2) 3 = nI n := by rw [hR.I S (by decide)]; exact hsz
      refine jm_run hX [(29, [0, 1, 2, 3])] 20 ?_
      refine And.intro (o2 Sm) (And.intro (fun _ => last m W hR hW (fun i' h => h0 i' (by omega)) hs) (fun g => ?_))
      have g : ¬ m.2.2.1 (ad 2) 3 ≤ nI i := g
      rw [hsz] at g
      exact absurd (nI_le (by omega) (by omega)) g
    | succ e ih =>
      intro i m W hi hR hW h0 hs
      have Sm := hR.S S
      have hsz : m.2.2.1 (ad 2) 3 = nI n := by rw [hR.I S (by decide)]; exact hsz
      have key4 := c_Fl_cell (l := l) (D := D) (ca := ca) (r := i) (c := col) Sm (by omega)
      have key5 := w_b1 (l := l) (D := D) (ca := ca) (i := 12 * i + col) (x := 0) Sm hW (by omega) (by decide)
      refine jm_run hX [(3, [0, 1, 2, 3, 4])] 20 ?_
      refine And.intro (o2 Sm) (And.intro (fun g => ?_) (fun _ => ?_))
      · have g : m.2.2.1 (ad 2) 3 ≤ nI i := g
        rw [hsz] at g
        exact absurd g (nI_ge (by omega) (by omega))
      refine And.intro (o2 Sm) (And.intro (Nat.le_of_ble_eq_true rfl) (And.intro (Nat.le_of_ble_eq_true rfl) ⟨0, 0, _, Nat.le_refl _, Nat.le_refl _, key4, fun v m' hq => ?_⟩))
      obtain ⟨ee, rfl⟩ := hq
      have ee := ee.symm
      subst ee
      refine And.intro (Sm.wh (12 * i + col) (by omega)).1 (And.intro (Nat.le_of_ble_eq_true rfl) (And.intro (Nat.le_of_ble_eq_true rfl) ⟨0, 0, _, Nat.le_refl _, Nat.le_refl _, key5, fun v m1 hq => ?_⟩))
      obtain ⟨rfl, hR1, hW1⟩ := hq
      have kk := ih (i + 1) m1 _ (by omega) (hR.tr hR1) hW1 (fun i' hi' => by
        by_cases e : i' = i
        · subst e; exact va_up_self _ _ _
        · rw [va_up_ne _ _ (by omega)]; exact h0 i' (by omega)) (fun x hx hxc => by rw [va_up_ne _ _ (by omega)]; exact hs x hx hxc)
      rw [← nI_1] at kk
      exact kk
  refine jm_run hX [(3, [0, 1, 2, 3, 4])] 20 ?_
  exact loop n 0 m0 V (by omega) FRW.rf hV (fun i' h => absurd h (by omega)) (fun _ _ _ => rfl)
theorem c_Fl_putReached {m0 : jm_M} {ad V : Nat → Nat} {d : LD} {F : Nat → Nat → Nat} {p col x n : Nat} {tv : Int32} (S : SST m0 ad) (L : LnV m0 ad d) (hO : LOK d) (hF : FlV m0 ad F) (hV : WV m0 ad V) (hsz : m0.2.2.1 (ad 2) 3 = nI n) (hn : n ≤ 9) (hp : p < d.1.2.2) (hcol : col < 12) (hx : 109 ≤ x) (hx2 : x < 132) (hFb : ∀ r, r < 9 → ∀ i, i < n → F (27 + r) i < 1073741824) (hb : ds_nS (fun k => amt F V (p * d.1.1 + k) col n) d.1.1 < wB ^ 13) : jm_C l D ca n_Fl_putReached [.ref (ad 2), .int tv, .int (nI p), .int (nI col), .ref (ad (100 + 2 * x))] m0 0 0 (fun v m' => v = none ∧ FRW ad m0 m' ∧ WV m' ad (va_up V x (rch d F V tv p col n))) := by
  refine jm_C_of (cd := cd_Fl_putReached) (ini := false) (by decide +kernel) ok_Fl_putReached (fun h => by cases h) (Nat.le_of_ble_eq_true rfl) ?_
  intro X hX
  have hK := hO.1
  have hP := hO.2.2.1
  have o2 : ∀ {m' : jm_M}, SST m' ad → jm_ok m' (ad 2) 1 := fun S => S.ok 2 (Or.inl (by decide))
  have o1 : ∀ {m' : jm_M}, SST m' ad → jm_ok m' (ad 1) 2 := fun S => S.ok 1 (Or.inl (by decide))
  have r1 : ∀ {m' : jm_M}, SST m' ad → m'.2.2.2.2 (ad 2) 2 = some (ad 1) := fun S => S.2.2.1 (2, 2, 1) (by decide)
  have rb : ∀ {m' : jm_M}, SST m' ad → m'.2.2.2.2 (ad 2) 1 = some (ad 316) := fun S => S.2.2.1 (2, 1, 316) (by decide)
  have ep := m2p_toInt (p := p) (by omega)
  have hrc : rch d F V tv p col n = if tv.toInt = -2 - (p : Int) then V 108 else if 0 ≤ tv.toInt then ds_nS (fun k => amt F V (p * d.1.1 + k) col n) d.1.1 else 0 := rfl
  have loop : rch d F V tv p col n = ds_nS (fun k => amt F V (p * d.1.1 + k) col n) d.1.1 → ∀ (e i : Nat) (m : jm_M), i + e = d.1.1 → FRW ad m0 m → WV m ad (va_up V x (ds_nS (fun k => amt F V (p * d.1.1 + k) col n) i)) → X 33 [(0, .ref (ad 2)), (1, .int tv), (2, .int (nI p)), (3, .int (nI col)), (4, .ref (ad (100 + 2 * x))), (5, .int (nI i))] [] m 0 0 := by
    intro hre e
    induction e with
    | zero =>
      intro i m hi hR hW
      have Sm := hR.S S
      have Lm := hR.L S L
      have ein : i = d.1.1 := by omega
      refine jm_run hX [] 20 ?_
      refine And.intro (o2 Sm) ⟨some (ad 1), r1 Sm, And.intro (o1 Sm) (And.intro (fun _ => ⟨Nat.le_refl _, Nat.le_refl _, trivial, rfl, hR, ?_⟩) (fun g => ?_))⟩
      · rw [hre]; rw [ein] at hW; exact hW
      have g : ¬ m.2.2.1 (ad 1) 0 ≤ nI i := g
      rw [Lm.1] at g
      exact absurd (nI_le (by omega) (by omega)) g
    | succ e ih =>
      intro i m hi hR hW
      have Sm := hR.S S
      have Lm := hR.L S L
      have hs : m.2.2.1 (ad 2) 3 = nI n := by rw [hR.I S (by decide)]; exact hsz
      have hrow := row_lt hK.2 hP hp (show i < d.1.1 by omega)
      have ea : amt F (va_up V x (ds_nS (fun k => amt F V (p * d.1.1 + k) col n) i)) (p * d.1.1 + i) col n = amt F V (p * d.1.1 + i) col n := ds_nS_congr (fun i hi => by rw [va_up_ne _ _ (by omega)])
      have hstep : ds_nS (fun k => amt F V (p * d.1.1 + k) col n) i + amt F V (p * d.1.1 + i) col n = ds_nS (fun k => amt F V (p * d.1.1 + k) col n) (i + 1) := rfl
      have hle : ds_nS (fun k => amt F V (p * d.1.1 + k) col n) (i + 1) ≤ ds_nS (fun k => amt F V (p * d.1.1 + k) col n) d.1.1 := ds_nS_le (by omega)
      have key := c_Fl_addAtPort (l := l) (D := D) (ca := ca) (p := p) (k := i) (col := col) (x := x) Sm Lm (hR.F S hF) hW hs hn hrow hcol (by omega) hx2 (hFb _ hrow) (by rw [va_up_self, ea]; omega)
      rw [va_up_self, ea, hstep, vuu] at key
      refine jm_run hX [(33, [0, 1, 2, 3, 4, 5])] 20 ?_
      refine And.intro (o2 Sm) ⟨some (ad 1), r1 Sm, And.intro (o1 Sm) (And.intro (fun g => ?_) (fun _ => ?_))⟩
      · have g : m.2.2.1 (ad 1) 0 ≤ nI i := g
        rw [Lm.1] at g
        exact absurd g (nI_ge (by omega) (by omega))
      refine And.intro (o2 Sm) (And.intro (Nat.le_of_ble_eq_true rfl) (And.intro (Nat.le_of_ble_eq_true rfl) ⟨0, 0, _, Nat.le_refl _, Nat.le_refl _, key, fun v m1 hq => ?_⟩))
      obtain ⟨rfl, hR1, hW1⟩ := hq
      have kk := ih (i + 1) m1 (by omega) (hR.tr hR1) hW1
      rw [← nI_1] at kk
      exact kk
  have key1 := w_b1 (l := l) (D := D) (ca := ca) (i := x) (x := 0) S hV hx2 (by decide)
  refine jm_run hX [(33, [0, 1, 2, 3, 4, 5])] 40 ?_
  refine And.intro (S.wh x hx2).1 (And.intro (Nat.le_of_ble_eq_true rfl) (And.intro (Nat.le_of_ble_eq_true rfl) ⟨0, 0, _, Nat.le_refl _, Nat.le_refl _, key1, fun v m1 hq => ?_⟩))
  obtain ⟨rfl, hR1, hW1⟩ := hq
  have S1 := hR1.S S
  refine And.intro (fun g => ?_) (fun g => ?_)
  · have g : tv = (-2 : Int32) - nI p := g
    rw [← Int32.toInt_inj, ep] at g
    have key2 := w_b2 (l := l) (D := D) (ca := ca) (i := x) (j := 108) S1 hW1 hx2 (by decide)
    rw [va_up_ne _ _ (show 108 ≠ x by omega), vuu] at key2
    refine And.intro (o2 S1) ⟨some (ad 316), rb S1, ?_⟩
    refine And.intro (S1.wh x hx2).1 (And.intro (Nat.le_of_ble_eq_true rfl) (And.intro (Nat.le_of_ble_eq_true rfl) ⟨0, 0, _, Nat.le_refl _, Nat.le_refl _, key2, fun v m2 hq => ?_⟩))
    obtain ⟨rfl, hR2, hW2⟩ := hq
    exact ⟨Nat.le_refl _, Nat.le_refl _, trivial, rfl, hR1.tr hR2, by rw [hrc, if_pos g]; exact hW2⟩
  · have g : ¬ tv = (-2 : Int32) - nI p := g
    rw [← Int32.toInt_inj, ep] at g
    refine And.intro (fun g2 => ?_) (fun g2 => ?_)
    · rw [ilt0] at g2
      exact ⟨Nat.le_refl _, Nat.le_refl _, trivial, rfl, hR1, by rw [hrc, if_neg g, if_neg (by omega)]; exact hW1⟩
    · rw [ilt0] at g2
      exact loop (by rw [hrc, if_neg g, if_pos (by omega)]) d.1.1 0 m1 (by omega) hR1 hW1
end FL9
