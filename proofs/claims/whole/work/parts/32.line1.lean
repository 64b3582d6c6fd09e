/-! Line: what was told. ((kinds, machines, ports), outs, joins, shares in units, crushed, becomes, feeds) -/
abbrev LD : Type := (Nat × Nat × Nat) × (Nat → Nat) × (Nat → Int32) × (Nat → Nat) × (Nat → Nat) × (Nat → Nat) × (Nat → Nat)
def LnV (m : jm_M) (ad : Nat → Nat) (d : LD) : Prop :=
  m.2.2.1 (ad 1) 0 = nI d.1.1 ∧ m.2.2.1 (ad 1) 1 = nI d.1.2.1 ∧ m.2.2.1 (ad 1) 2 = nI d.1.2.2 ∧ m.2.2.1 (ad 5) = (fun i => nI (d.2.1 i)) ∧ m.2.2.1 (ad 6) = d.2.2.1 ∧ m.2.2.1 (ad 7) = (fun i => nI (d.2.2.2.1 i)) ∧ m.2.2.1 (ad 8) = (fun i => nI (d.2.2.2.2.1 i)) ∧ m.2.2.1 (ad 9) = (fun i => nI (d.2.2.2.2.2.1 i)) ∧ m.2.2.2.1 (ad 10) = (fun i => lN (d.2.2.2.2.2.2 i))
/-- where an out goes: a machine, a port, nothing -/
def jOK (M P : Nat) (t : Int32) : Prop := (0 ≤ t.toInt ∧ t.toInt < (M : Int)) ∨ t.toInt = -1 ∨ (t.toInt ≤ -2 ∧ -2 - t.toInt < (P : Int))
def LOK (d : LD) : Prop :=
  (1 ≤ d.1.1 ∧ d.1.1 ≤ 3) ∧ d.1.2.1 ≤ 3 ∧ d.1.2.2 ≤ 3 ∧ (∀ j, j < d.1.2.1 → 1 ≤ d.2.1 j ∧ d.2.1 j ≤ 3) ∧ (∀ i, i < 9 → jOK d.1.2.1 d.1.2.2 (d.2.2.1 i)) ∧
  (∀ r, r < 9 → ∀ o, o < 3 → d.2.2.2.1 (3 * r + o) ≤ 27720) ∧ (∀ r, r < 9 → d.2.2.2.2.1 r ≤ 27720) ∧ (∀ r, r < 9 → d.2.2.2.2.2.1 r < d.1.1) ∧ (∀ r, r < 9 → d.2.2.2.2.2.2 r ≤ 1000000)
theorem ilt0 (x : Int32) : x < 0 ↔ x.toInt < 0 := by
  rw [Int32.lt_iff_toInt_lt]; exact Iff.rfl
theorem ige0 (x : Int32) : 0 ≤ x ↔ 0 ≤ x.toInt := by
  rw [Int32.le_iff_toInt_le]; exact Iff.rfl
theorem ileN {n : Nat} (h : n < 2 ^ 31) (x : Int32) : nI n ≤ x ↔ (n : Int) ≤ x.toInt := by
  rw [Int32.le_iff_toInt_le, nI_toInt h]
theorem iNle {n : Nat} (h : n < 2 ^ 31) (x : Int32) : x ≤ nI n ↔ x.toInt ≤ (n : Int) := by
  rw [Int32.le_iff_toInt_le, nI_toInt h]
theorem iltN {n : Nat} (h : n < 2 ^ 31) (x : Int32) : x < nI n ↔ x.toInt < (n : Int) := by
  rw [Int32.lt_iff_toInt_lt, nI_toInt h]
theorem iNlt {n : Nat} (h : n < 2 ^ 31) (x : Int32) : nI n < x ↔ (n : Int) < x.toInt := by
  rw [Int32.lt_iff_toInt_lt, nI_toInt h]
theorem ieqN {n : Nat} (h : n < 2 ^ 31) (x : Int32) : x = nI n ↔ x.toInt = (n : Int) := by
  rw [← Int32.toInt_inj, nI_toInt h]
/-- an int that is a number -/
theorem i_of {x : Int32} (h : 0 ≤ x.toInt) : x = nI x.toInt.toNat := by
  have : x.toInt < 2 ^ 31 := x.toInt_lt
  rw [ieqN (by omega)]; omega
section LN
variable {l : Launch} {D : va_G} {ca : Nat → ClassId}
theorem c_Ln_hasMachine {m : jm_M} {ad : Nat → Nat} {d : LD} (S : SST m ad) (L : LnV m ad d) (hM : d.1.2.1 < 2 ^ 31) (x : Int32) : jm_C l D ca n_Ln_hasMachine [.ref (ad 1), .int x] m 0 0 (fun v m' => m' = m ∧ v = some (.int (if 0 ≤ x.toInt ∧ x.toInt < (d.1.2.1 : Int) then 1 else 0))) := by
  refine jm_C_of (cd := cd_Ln_hasMachine) (ini := false) (by decide +kernel) ok_Ln_hasMachine (fun h => by cases h) (Nat.le_of_ble_eq_true rfl) ?_
  intro X hX
  have o1 : jm_ok m (ad 1) 2 := S.ok 1 (Or.inl (by decide))
  refine jm_run hX [] 20 ?_
  refine And.intro (fun g => ?_) (fun g => ?_)
  · rw [ilt0] at g
    exact ⟨Nat.le_refl _, Nat.le_refl _, Or.inl rfl, rfl, by rw [if_neg (by omega)]⟩
  · rw [ilt0] at g
    refine And.intro o1 (And.intro (fun g2 => ?_) (fun g2 => ?_))
    · have g2 : m.2.2.1 (ad 1) 1 ≤ x := g2
      rw [L.2.1, ileN hM] at g2
      exact ⟨Nat.le_refl _, Nat.le_refl _, Or.inl rfl, rfl, by rw [if_neg (by omega)]⟩
    · have g2 : ¬ m.2.2.1 (ad 1) 1 ≤ x := g2
      rw [L.2.1, ileN hM] at g2
      exact ⟨Nat.le_refl _, Nat.le_refl _, Or.inr rfl, rfl, by rw [if_pos (by omega)]⟩
theorem c_Ln_hasPort {m : jm_M} {ad : Nat → Nat} {d : LD} (S : SST m ad) (L : LnV m ad d) (hM : d.1.2.2 < 2 ^ 31) (x : Int32) : jm_C l D ca n_Ln_hasPort [.ref (ad 1), .int x] m 0 0 (fun v m' => m' = m ∧ v = some (.int (if 0 ≤ x.toInt ∧ x.toInt < (d.1.2.2 : Int) then 1 else 0))) := by
  refine jm_C_of (cd := cd_Ln_hasPort) (ini := false) (by decide +kernel) ok_Ln_hasPort (fun h => by cases h) (Nat.le_of_ble_eq_true rfl) ?_
  intro X hX
  have o1 : jm_ok m (ad 1) 2 := S.ok 1 (Or.inl (by decide))
  refine jm_run hX [] 20 ?_
  refine And.intro (fun g => ?_) (fun g => ?_)
  · rw [ilt0] at g
    exact ⟨Nat.le_refl _, Nat.le_refl _, Or.inl rfl, rfl, by rw [if_neg (by omega)]⟩
  · rw [ilt0] at g
    refine And.intro o1 (And.intro (fun g2 => ?_) (fun g2 => ?_))
    · have g2 : m.2.2.1 (ad 1) 2 ≤ x := g2
      rw [L.2.2.1, ileN hM] at g2
      exact ⟨Nat.le_refl _, Nat.le_refl _, Or.inl rfl, rfl, by rw [if_neg (by omega)]⟩
    · have g2 : ¬ m.2.2.1 (ad 1) 2 ≤ x := g2
      rw [L.2.2.1, ileN hM] at g2
      exact ⟨Nat.le_refl _, Nat.le_refl _, Or.inr rfl, rfl, by rw [if_pos (by omega)]⟩
theorem c_Ln_hasKind {m : jm_M} {ad : Nat → Nat} {d : LD} (S : SST m ad) (L : LnV m ad d) (hM : d.1.1 < 2 ^ 31) (x : Int32) : jm_C l D ca n_Ln_hasKind [.ref (ad 1), .int x] m 0 0 (fun v m' => m' = m ∧ v = some (.int (if 0 ≤ x.toInt ∧ x.toInt < (d.1.1 : Int) then 1 else 0))) := by
  refine jm_C_of (cd := cd_Ln_hasKind) (ini := false) (by decide +kernel) ok_Ln_hasKind (fun h => by cases h) (Nat.le_of_ble_eq_true rfl) ?_
  intro X hX
  have o1 : jm_ok m (ad 1) 2 := S.ok 1 (Or.inl (by decide))
  refine jm_run hX [] 20 ?_
  refine And.intro (fun g => ?_) (fun g => ?_)
  · rw [ilt0] at g
    exact ⟨Nat.le_refl _, Nat.le_refl _, Or.inl rfl, rfl, by rw [if_neg (by omega)]⟩
  · rw [ilt0] at g
    refine And.intro o1 (And.intro (fun g2 => ?_) (fun g2 => ?_))
    · have g2 : m.2.2.1 (ad 1) 0 ≤ x := g2
      rw [L.1, ileN hM] at g2
      exact ⟨Nat.le_refl _, Nat.le_refl _, Or.inl rfl, rfl, by rw [if_neg (by omega)]⟩
    · have g2 : ¬ m.2.2.1 (ad 1) 0 ≤ x := g2
      rw [L.1, ileN hM] at g2
      exact ⟨Nat.le_refl _, Nat.le_refl _, Or.inr rfl, rfl, by rw [if_pos (by omega)]⟩
theorem c_Ln_hasRow {m : jm_M} {ad : Nat → Nat} {d : LD} (S : SST m ad) (L : LnV m ad d) (hO : LOK d) (x y : Int32) : jm_C l D ca n_Ln_hasRow [.ref (ad 1), .int x, .int y] m 0 0 (fun v m' => m' = m ∧ v = some (.int (if (0 ≤ x.toInt ∧ x.toInt < (d.1.2.1 : Int)) ∧ 0 ≤ y.toInt ∧ y.toInt < (d.1.1 : Int) then 1 else 0))) := by
  refine jm_C_of (cd := cd_Ln_hasRow) (ini := false) (by decide +kernel) ok_Ln_hasRow (fun h => by cases h) (Nat.le_of_ble_eq_true rfl) ?_
  intro X hX
  have o1 : jm_ok m (ad 1) 2 := S.ok 1 (Or.inl (by decide))
  have hK := hO.1
  have hM := hO.2.1
  refine jm_run hX [] 20 ?_
  refine And.intro o1 (And.intro (Nat.le_of_ble_eq_true rfl) (And.intro (Nat.le_of_ble_eq_true rfl) ⟨0, 0, _, Nat.le_refl _, Nat.le_refl _, c_Ln_hasMachine S L (by omega) x, fun v m' hq => ?_⟩))
  obtain ⟨rfl, rfl⟩ := hq
  by_cases h1 : 0 ≤ x.toInt ∧ x.toInt < (d.1.2.1 : Int)
  · rw [if_pos h1]
    refine And.intro (fun g => absurd g (by decide)) (fun _ => ?_)
    refine And.intro o1 (And.intro (Nat.le_of_ble_eq_true rfl) (And.intro (Nat.le_of_ble_eq_true rfl) ⟨0, 0, _, Nat.le_refl _, Nat.le_refl _, c_Ln_hasKind S L (by omega) y, fun v m2 hq => ?_⟩))
    obtain ⟨rfl, rfl⟩ := hq
    by_cases h2 : 0 ≤ y.toInt ∧ y.toInt < (d.1.1 : Int)
    · rw [if_pos h2]
      refine And.intro (fun g => absurd g (by decide)) (fun _ => ?_)
      exact ⟨Nat.le_refl _, Nat.le_refl _, Or.inr rfl, rfl, by rw [if_pos ⟨h1, h2⟩]⟩
    · rw [if_neg h2]
      refine And.intro (fun _ => ?_) (fun g => absurd rfl g)
      exact ⟨Nat.le_refl _, Nat.le_refl _, Or.inl rfl, rfl, by rw [if_neg (fun z => h2 z.2)]⟩
  · rw [if_neg h1]
    refine And.intro (fun _ => ?_) (fun g => absurd rfl g)
    exact ⟨Nat.le_refl _, Nat.le_refl _, Or.inl rfl, rfl, by rw [if_neg (fun z => h1 z.1)]⟩
theorem c_Ln_hasOut {m : jm_M} {ad : Nat → Nat} {d : LD} (S : SST m ad) (L : LnV m ad d) (hO : LOK d) (x y : Int32) : jm_C l D ca n_Ln_hasOut [.ref (ad 1), .int x, .int y] m 0 0 (fun v m' => m' = m ∧ v = some (.int (if (0 ≤ x.toInt ∧ x.toInt < (d.1.2.1 : Int)) ∧ 0 ≤ y.toInt ∧ y.toInt < (d.2.1 x.toInt.toNat : Int) then 1 else 0))) := by
  refine jm_C_of (cd := cd_Ln_hasOut) (ini := false) (by decide +kernel) ok_Ln_hasOut (fun h => by cases h) (Nat.le_of_ble_eq_true rfl) ?_
  intro X hX
  have o1 : jm_ok m (ad 1) 2 := S.ok 1 (Or.inl (by decide))
  have o5 : jm_ok m (ad 5) 50 := S.ok 5 (Or.inl (by decide))
  have r5 : m.2.2.2.2 (ad 1) 3 = some (ad 5) := S.2.2.1 (1, 3, 5) (by decide)
  have l5 : (m.2.1 (ad 5)).2 = 3 := S.len 5 (Or.inl (by decide))
  have hM := hO.2.1
  refine jm_run hX [] 30 ?_
  refine And.intro o1 (And.intro (Nat.le_of_ble_eq_true rfl) (And.intro (Nat.le_of_ble_eq_true rfl) ⟨0, 0, _, Nat.le_refl _, Nat.le_refl _, c_Ln_hasMachine S L (by omega) x, fun v m' hq => ?_⟩))
  obtain ⟨rfl, rfl⟩ := hq
  by_cases h1 : 0 ≤ x.toInt ∧ x.toInt < (d.1.2.1 : Int)
  · rw [if_pos h1]
    refine And.intro (fun g => absurd g (by decide)) (fun _ => ?_)
    refine And.intro (fun g => ?_) (fun g => ?_)
    · rw [ilt0] at g
      exact ⟨Nat.le_refl _, Nat.le_refl _, Or.inl rfl, rfl, by rw [if_neg (by omega)]⟩
    rw [ilt0] at g
    have ex := i_of h1.1
    have hou := hO.2.2.2.1 x.toInt.toNat (by omega)
    refine And.intro o1 ⟨some (ad 5), r5, And.intro o5 (And.intro ?_ ?_)⟩
    · show vp_in x (m'.2.1 (ad 5)).2
      rw [ex]; exact vin_of l5 (by omega) (by decide)
    have ev : m'.2.2.1 (ad 5) x.toNatClampNeg = nI (d.2.1 x.toInt.toNat) := by
      rw [L.2.2.2.1]; rfl
    refine And.intro (fun g2 => ?_) (fun g2 => ?_)
    · have g2 : m'.2.2.1 (ad 5) x.toNatClampNeg ≤ y := g2
      rw [ev, ileN (by omega)] at g2
      exact ⟨Nat.le_refl _, Nat.le_refl _, Or.inl rfl, rfl, by rw [if_neg (by omega)]⟩
    · have g2 : ¬ m'.2.2.1 (ad 5) x.toNatClampNeg ≤ y := g2
      rw [ev, ileN (by omega)] at g2
      exact ⟨Nat.le_refl _, Nat.le_refl _, Or.inr rfl, rfl, by rw [if_pos ⟨h1, by omega⟩]⟩
  · rw [if_neg h1]
    refine And.intro (fun _ => ?_) (fun g => absurd rfl g)
    exact ⟨Nat.le_refl _, Nat.le_refl _, Or.inl rfl, rfl, by rw [if_neg (fun z => h1 z.1)]⟩
theorem c_Ln_lastOut {m : jm_M} {ad : Nat → Nat} {d : LD} {j : Nat} (S : SST m ad) (L : LnV m ad d) (hj : j < 3) (hou : 1 ≤ d.2.1 j) : jm_C l D ca n_Ln_lastOut [.ref (ad 1), .int (nI j)] m 0 0 (fun v m' => m' = m ∧ v = some (.int (nI (d.2.1 j - 1)))) := by
  refine jm_C_of (cd := cd_Ln_lastOut) (ini := false) (by decide +kernel) ok_Ln_lastOut (fun h => by cases h) (Nat.le_of_ble_eq_true rfl) ?_
  intro X hX
  have o1 : jm_ok m (ad 1) 2 := S.ok 1 (Or.inl (by decide))
  have o5 : jm_ok m (ad 5) 50 := S.ok 5 (Or.inl (by decide))
  have r5 : m.2.2.2.2 (ad 1) 3 = some (ad 5) := S.2.2.1 (1, 3, 5) (by decide)
  have l5 : (m.2.1 (ad 5)).2 = 3 := S.len 5 (Or.inl (by decide))
  refine jm_run hX [] 30 ?_
  refine And.intro o1 ⟨some (ad 5), r5, And.intro o5 (And.intro (vin_of l5 hj (by decide)) ?_)⟩
  refine ⟨Nat.le_refl _, Nat.le_refl _, trivial, rfl, ?_⟩
  show some (Value.int (m.2.2.1 (ad 5) (nI j).toNatClampNeg - 1)) = _
  rw [nI_c (by omega), L.2.2.2.1]
  show some (Value.int (nI (d.2.1 j) - nI 1)) = _
  rw [pk_sub hou]
theorem c_Ln_hasSharedOut {m : jm_M} {ad : Nat → Nat} {d : LD} (S : SST m ad) (L : LnV m ad d) (hO : LOK d) (x z y : Int32) : jm_C l D ca n_Ln_hasSharedOut [.ref (ad 1), .int x, .int z, .int y] m 0 0 (fun v m' => m' = m ∧ v = some (.int (if (0 ≤ x.toInt ∧ x.toInt < (d.1.2.1 : Int)) ∧ (0 ≤ z.toInt ∧ z.toInt < (d.1.1 : Int)) ∧ 0 ≤ y.toInt ∧ y.toInt + 1 < (d.2.1 x.toInt.toNat : Int) then 1 else 0))) := by
  refine jm_C_of (cd := cd_Ln_hasSharedOut) (ini := false) (by decide +kernel) ok_Ln_hasSharedOut (fun h => by cases h) (Nat.le_of_ble_eq_true rfl) ?_
  intro X hX
  have o1 : jm_ok m (ad 1) 2 := S.ok 1 (Or.inl (by decide))
  have hK := hO.1
  have hM := hO.2.1
  refine jm_run hX [] 30 ?_
  refine And.intro o1 (And.intro (Nat.le_of_ble_eq_true rfl) (And.intro (Nat.le_of_ble_eq_true rfl) ⟨0, 0, _, Nat.le_refl _, Nat.le_refl _, c_Ln_hasOut S L hO x y, fun v m' hq => ?_⟩))
  obtain ⟨rfl, rfl⟩ := hq
  by_cases h1 : (0 ≤ x.toInt ∧ x.toInt < (d.1.2.1 : Int)) ∧ 0 ≤ y.toInt ∧ y.toInt < (d.2.1 x.toInt.toNat : Int)
  · rw [if_pos h1]
    refine And.intro (fun g => absurd g (by decide)) (fun _ => ?_)
    refine And.intro o1 (And.intro (Nat.le_of_ble_eq_true rfl) (And.intro (Nat.le_of_ble_eq_true rfl) ⟨0, 0, _, Nat.le_refl _, Nat.le_refl _, c_Ln_hasKind S L (by omega) z, fun v m2 hq => ?_⟩))
    obtain ⟨rfl, rfl⟩ := hq
    by_cases h2 : 0 ≤ z.toInt ∧ z.toInt < (d.1.1 : Int)
    · rw [if_pos h2]
      refine And.intro (fun g => absurd g (by decide)) (fun _ => ?_)
      have ex := i_of h1.1.1
      have hou := hO.2.2.2.1 x.toInt.toNat (by omega)
      have key := c_Ln_lastOut (l := l) (D := D) (ca := ca) (j := x.toInt.toNat) S L (by omega) hou.1
      rw [← ex] at key
      refine And.intro o1 (And.intro (Nat.le_of_ble_eq_true rfl) (And.intro (Nat.le_of_ble_eq_true rfl) ⟨0, 0, _, Nat.le_refl _, Nat.le_refl _, key, fun v m3 hq => ?_⟩))
      obtain ⟨rfl, rfl⟩ := hq
      refine And.intro (fun g => ?_) (fun g => ?_)
      · have g : y = nI (d.2.1 x.toInt.toNat - 1) := g
        rw [ieqN (by omega)] at g
        exact ⟨Nat.le_refl _, Nat.le_refl _, Or.inl rfl, rfl, by rw [if_neg (by omega)]⟩
      · have g : ¬ y = nI (d.2.1 x.toInt.toNat - 1) := g
        rw [ieqN (by omega)] at g
        exact ⟨Nat.le_refl _, Nat.le_refl _, Or.inr rfl, rfl, by rw [if_pos ⟨h1.1, h2, by omega⟩]⟩
    · rw [if_neg h2]
      refine And.intro (fun _ => ?_) (fun g => absurd rfl g)
      exact ⟨Nat.le_refl _, Nat.le_refl _, Or.inl rfl, rfl, by rw [if_neg (fun z => h2 z.2.1)]⟩
  · rw [if_neg h1]
    refine And.intro (fun _ => ?_) (fun g => absurd rfl g)
    exact ⟨Nat.le_refl _, Nat.le_refl _, Or.inl rfl, rfl, by rw [if_neg (by omega)]⟩
theorem c_Ln_hasTarget {m : jm_M} {ad : Nat → Nat} {d : LD} (S : SST m ad) (L : LnV m ad d) (hO : LOK d) (t : Int32) : jm_C l D ca n_Ln_hasTarget [.ref (ad 1), .int t] m 0 0 (fun v m' => m' = m ∧ ((v = some (.int 1) ∧ jOK d.1.2.1 d.1.2.2 t) ∨ (v = some (.int 0) ∧ ¬ jOK d.1.2.1 d.1.2.2 t))) := by
  refine jm_C_of (cd := cd_Ln_hasTarget) (ini := false) (by decide +kernel) ok_Ln_hasTarget (fun h => by cases h) (Nat.le_of_ble_eq_true rfl) ?_
  intro X hX
  have o1 : jm_ok m (ad 1) 2 := S.ok 1 (Or.inl (by decide))
  have hM := hO.2.1
  have hP := hO.2.2.1
  unfold jOK at hX
  refine jm_run hX [] 30 ?_
  refine And.intro (fun g => ?_) (fun g => ?_)
  · rw [ilt0] at g
    have hm1 : (-1 : Int32).toInt = -1 := by decide
    refine And.intro (fun g2 => ?_) (fun g2 => ?_)
    · have g2 : t = -1 := g2
      rw [← Int32.toInt_inj, hm1] at g2
      exact ⟨Nat.le_refl _, Nat.le_refl _, Or.inr rfl, rfl, Or.inl ⟨rfl, by omega⟩⟩
    · have g2 : ¬ t = -1 := g2
      rw [← Int32.toInt_inj, hm1] at g2
      have e : ((-2 : Int32) - t).toInt = -2 - t.toInt := by
        have h2 : (-2 : Int32).toInt = -2 := by decide
        have h3 : -2 ^ 31 ≤ t.toInt := t.le_toInt
        rw [Int32.toInt_sub, h2]
        exact Int.bmod_eq_of_le (by omega) (by omega)
      refine And.intro o1 (And.intro (Nat.le_of_ble_eq_true rfl) (And.intro (Nat.le_of_ble_eq_true rfl) ⟨0, 0, _, Nat.le_refl _, Nat.le_refl _, c_Ln_hasPort S L (by omega) ((-2 : Int32) - t), fun v m' hq => ?_⟩))
      obtain ⟨rfl, rfl⟩ := hq
      rw [e]
      by_cases h5 : 0 ≤ -2 - t.toInt ∧ -2 - t.toInt < (d.1.2.2 : Int)
      · rw [if_pos h5]
        refine And.intro (fun g => absurd g (by decide)) (fun _ => ?_)
        exact ⟨Nat.le_refl _, Nat.le_refl _, Or.inr rfl, rfl, Or.inl ⟨rfl, by omega⟩⟩
      · rw [if_neg h5]
        refine And.intro (fun _ => ?_) (fun g => absurd rfl g)
        exact ⟨Nat.le_refl _, Nat.le_refl _, Or.inl rfl, rfl, Or.inr ⟨rfl, by omega⟩⟩
  · rw [ilt0] at g
    refine And.intro o1 (And.intro (fun g2 => ?_) (fun g2 => ?_))
    · have g2 : m.2.2.1 (ad 1) 1 ≤ t := g2
      rw [L.2.1, ileN (by omega)] at g2
      exact ⟨Nat.le_refl _, Nat.le_refl _, Or.inl rfl, rfl, Or.inr ⟨rfl, by omega⟩⟩
    · have g2 : ¬ m.2.2.1 (ad 1) 1 ≤ t := g2
      rw [L.2.1, ileN (by omega)] at g2
      exact ⟨Nat.le_refl _, Nat.le_refl _, Or.inr rfl, rfl, Or.inl ⟨rfl, by omega⟩⟩
theorem c_Ln_row {m : jm_M} {ad : Nat → Nat} {d : LD} {j k : Nat} (S : SST m ad) (L : LnV m ad d) : jm_C l D ca n_Ln_row [.ref (ad 1), .int (nI j), .int (nI k)] m 0 0 (fun v m' => m' = m ∧ v = some (.int (nI (j * d.1.1 + k)))) := by
  refine jm_C_of (cd := cd_Ln_row) (ini := false) (by decide +kernel) ok_Ln_row (fun h => by cases h) (Nat.le_of_ble_eq_true rfl) ?_
  intro X hX
  have o1 : jm_ok m (ad 1) 2 := S.ok 1 (Or.inl (by decide))
  refine jm_run hX [] 30 ?_
  refine And.intro o1 ⟨Nat.le_refl _, Nat.le_refl _, trivial, rfl, ?_⟩
  show some (Value.int (nI j * m.2.2.1 (ad 1) 0 + nI k)) = _
  rw [L.1, pk_mul, nI_add]
theorem c_Ln_shareOf {m : jm_M} {ad : Nat → Nat} {d : LD} {j k o : Nat} (S : SST m ad) (L : LnV m ad d) (hr : j * d.1.1 + k < 9) (ho : o < 3) : jm_C l D ca n_Ln_shareOf [.ref (ad 1), .int (nI j), .int (nI k), .int (nI o)] m 0 0 (fun v m' => m' = m ∧ v = some (.int (nI (d.2.2.2.1 (3 * (j * d.1.1 + k) + o))))) := by
  refine jm_C_of (cd := cd_Ln_shareOf) (ini := false) (by decide +kernel) ok_Ln_shareOf (fun h => by cases h) (Nat.le_of_ble_eq_true rfl) ?_
  intro X hX
  have o1 : jm_ok m (ad 1) 2 := S.ok 1 (Or.inl (by decide))
  have o7 : jm_ok m (ad 7) 50 := S.ok 7 (Or.inl (by decide))
  have r7 : m.2.2.2.2 (ad 1) 5 = some (ad 7) := S.2.2.1 (1, 5, 7) (by decide)
  have l7 : (m.2.1 (ad 7)).2 = 27 := S.len 7 (Or.inl (by decide))
  refine jm_run hX [] 30 ?_
  refine And.intro o1 ⟨some (ad 7), r7, ?_⟩
  refine And.intro o1 (And.intro (Nat.le_of_ble_eq_true rfl) (And.intro (Nat.le_of_ble_eq_true rfl) ⟨0, 0, _, Nat.le_refl _, Nat.le_refl _, c_Ln_row S L, fun v m' hq => ?_⟩))
  obtain ⟨rfl, rfl⟩ := hq
  have e : nI (j * d.1.1 + k) * 3 + nI o = nI (3 * (j * d.1.1 + k) + o) := by
    have e3 : (3 : Int32) = nI 3 := rfl
    rw [e3, pk_mul, nI_add, Nat.mul_comm]
  refine And.intro o7 (And.intro ?_ ?_)
  · show vp_in (nI (j * d.1.1 + k) * 3 + nI o) (m'.2.1 (ad 7)).2
    rw [e]; exact vin_of l7 (by omega) (by decide)
  refine ⟨Nat.le_refl _, Nat.le_refl _, trivial, rfl, ?_⟩
  show some (Value.int (m'.2.2.1 (ad 7) (nI (j * d.1.1 + k) * 3 + nI o).toNatClampNeg)) = _
  rw [e, nI_c (by omega), L.2.2.2.2.2.1]
theorem c_Ln_target {m : jm_M} {ad : Nat → Nat} {d : LD} {j o : Nat} (S : SST m ad) (L : LnV m ad d) (hj : j < 3) (ho : o < 3) : jm_C l D ca n_Ln_target [.ref (ad 1), .int (nI j), .int (nI o)] m 0 0 (fun v m' => m' = m ∧ v = some (.int (d.2.2.1 (3 * j + o)))) := by
  refine jm_C_of (cd := cd_Ln_target) (ini := false) (by decide +kernel) ok_Ln_target (fun h => by cases h) (Nat.le_of_ble_eq_true rfl) ?_
  intro X hX
  have o1 : jm_ok m (ad 1) 2 := S.ok 1 (Or.inl (by decide))
  have o6 : jm_ok m (ad 6) 50 := S.ok 6 (Or.inl (by decide))
  have r6 : m.2.2.2.2 (ad 1) 4 = some (ad 6) := S.2.2.1 (1, 4, 6) (by decide)
  have l6 : (m.2.1 (ad 6)).2 = 9 := S.len 6 (Or.inl (by decide))
  have e : nI j * 3 + nI o = nI (3 * j + o) := by
    have e3 : (3 : Int32) = nI 3 := rfl
    rw [e3, pk_mul, nI_add, Nat.mul_comm]
  refine jm_run hX [] 30 ?_
  refine And.intro o1 ⟨some (ad 6), r6, And.intro o6 (And.intro ?_ ?_)⟩
  · show vp_in (nI j * 3 + nI o) (m.2.1 (ad 6)).2
    rw [e]; exact vin_of l6 (by omega) (by decide)
  refine ⟨Nat.le_refl _, Nat.le_refl _, trivial, rfl, ?_⟩
  show some (Value.int (m.2.2.1 (ad 6) (nI j * 3 + nI o).toNatClampNeg)) = _
  rw [e, nI_c (by omega), L.2.2.2.2.1]
end LN
