section FL2
variable {l : Launch} {D : va_G} {ca : Nat → ClassId}
/-- a column is divided by what divides all of it -/
theorem c_Fl_shrinkColumn {m : jm_M} {ad : Nat → Nat} {F : Nat → Nat → Nat} {f : Nat} (S : SST m ad) (hF : FlV m ad F) (hf : f < 9) (h1 : 1 ≤ F 15 f) (hF31 : ∀ t, fk t → F t f < 2 ^ 31) : jm_C l D ca n_Fl_shrinkColumn [.ref (ad 2), .int (nI f)] m 0 0 (fun v m' => v = none ∧ FRs ad fk m m' ∧ ∃ g, 1 ≤ g ∧ (∀ t, fk t → g ∣ F t f) ∧ (∀ w, (∀ t, fk t → w ∣ F t f) → w ∣ g) ∧ FlV m' ad (fun t c => if c = f then F t c / g else F t c)) := by
  refine jm_C_of (cd := cd_Fl_shrinkColumn) (ini := false) (by decide +kernel) ok_Fl_shrinkColumn (fun h => by cases h) (Nat.le_of_ble_eq_true rfl) ?_
  intro X hX
  have ecf : (nI f).toNatClampNeg = f := nI_c (by omega)
  have o2 : jm_ok m (ad 2) 1 := S.ok 2 (Or.inl (by decide))
  have o16 : jm_ok m (ad 16) 54 := S.ok 16 (Or.inl (by decide))
  have r16 : m.2.2.2.2 (ad 2) 5 = some (ad 16) := S.2.2.1 (2, 5, 16) (by decide)
  have l16 : (m.2.1 (ad 16)).2 = 9 := S.len 16 (Or.inl (by decide))
  have o26 : jm_ok m (ad 26) 54 := S.ok 26 (Or.inl (by decide))
  have r26 : m.2.2.2.2 (ad 2) 6 = some (ad 26) := S.2.2.1 (2, 6, 26) (by decide)
  have l26 : (m.2.1 (ad 26)).2 = 9 := S.len 26 (Or.inl (by decide))
  have o36 : jm_ok m (ad 36) 54 := S.ok 36 (Or.inl (by decide))
  have r36 : m.2.2.2.2 (ad 2) 7 = some (ad 36) := S.2.2.1 (2, 7, 36) (by decide)
  have l36 : (m.2.1 (ad 36)).2 = 3 := S.len 36 (Or.inl (by decide))
  have stepg : ∀ (g t : Nat), fk t → 1 ≤ g → g < 2 ^ 31 → 1 ≤ Nat.gcd g (F t f) ∧ Nat.gcd g (F t f) < 2 ^ 31 := by
    intro g t ht hg1 hg
    have := Nat.gcd_pos_of_pos_left (F t f) hg1
    have := Nat.le_of_dvd hg1 (Nat.gcd_dvd_left g (F t f))
    omega
  have third : ∀ (e i g : Nat), i + e = 3 → 1 ≤ g → g < 2 ^ 31 → (∀ t, fk t → t < 37 + i → g ∣ F t f) → (∀ w, (∀ t, fk t → w ∣ F t f) → w ∣ g) → X 49 [(0, .ref (ad 2)), (1, .int (nI f)), (2, .int (nI g)), (3, .int (nI i))] [] m 0 0 := by
    intro e
    induction e with
    | zero =>
      intro i g hi hg1 hg hd hw
      refine jm_run hX [] 20 ?_
      refine And.intro (fun _ => ?_) (fun g => absurd (nI_le (show 3 ≤ i by omega) (by omega)) g)
      refine And.intro o2 (And.intro (Nat.le_of_ble_eq_true rfl) (And.intro (Nat.le_of_ble_eq_true rfl) ⟨0, 0, _, Nat.le_refl _, Nat.le_refl _, c_Fl_divideColumn S hF hf hg1 hg hF31, fun v m' hq => ?_⟩))
      obtain ⟨rfl, h2, h3⟩ := hq
      exact ⟨Nat.le_refl _, Nat.le_refl _, trivial, rfl, h2, g, hg1, fun t ht => hd t ht (by unfold fk at ht; omega), hw, h3⟩
    | succ e ih =>
      intro i g hi hg1 hg hd hw
      have ht : fk (37 + i) := fk_t (by omega)
      have q := fkok S ht
      have sg := stepg g _ ht hg1 hg
      have kk := ih (i + 1) (Nat.gcd g (F (37 + i) f)) (by omega) sg.1 sg.2 (fun t ht' hlt => by
        by_cases e : t = 37 + i
        · subst e; exact Nat.gcd_dvd_right _ _
        · exact Nat.dvd_trans (Nat.gcd_dvd_left _ _) (hd t ht' (by omega))) (fun w h => Nat.dvd_gcd (hw w h) (h _ ht))
      rw [← nI_1] at kk
      have key := c_Fl_commonDivisor (l := l) (D := D) (ca := ca) (m := m) hg (hF31 _ ht)
      rw [← hF _ ht f hf] at key
      refine jm_run hX [(49, [0, 1, 2, 3])] 20 ?_
      refine And.intro (fun g => absurd g (nI_ge (show i < 3 by omega) (by decide))) (fun _ => ?_)
      refine And.intro o2 ⟨some (ad 36), r36, And.intro o36 (And.intro (vin_of l36 (by omega) (by decide)) ⟨some (ad (37 + i)), ?_, ?_⟩)⟩
      · rw [nI_c (by omega)]; exact S.2.2.2.2.2.2.1 i (by omega)
      refine And.intro q.1 (And.intro (vin_of q.2 hf (by decide)) ?_)
      refine ⟨Nat.le_of_ble_eq_true rfl, Nat.le_of_ble_eq_true rfl, 0, 0, _, Nat.le_refl _, Nat.le_refl _, (by rw [ecf]; exact key), fun v m' hq => ?_⟩
      obtain ⟨rfl, rfl⟩ := hq
      exact kk
  have second : ∀ (e i g : Nat), i + e = 9 → 1 ≤ g → g < 2 ^ 31 → (∀ t, fk t → t = 15 ∨ (17 ≤ t ∧ t < 17 + i) ∨ (27 ≤ t ∧ t < 27 + i) → g ∣ F t f) → (∀ w, (∀ t, fk t → w ∣ F t f) → w ∣ g) → X 9 [(0, .ref (ad 2)), (1, .int (nI f)), (2, .int (nI g)), (3, .int (nI i))] [] m 0 0 := by
    intro e
    induction e with
    | zero =>
      intro i g hi hg1 hg hd hw
      refine jm_run hX [(49, [0, 1, 2, 3])] 20 ?_
      refine And.intro (fun _ => ?_) (fun g => absurd (nI_le (show 9 ≤ i by omega) (by omega)) g)
      exact third 3 0 g (by omega) hg1 hg (fun t ht hlt => hd t ht (by unfold fk at ht; omega)) hw
    | succ e ih =>
      intro i g hi hg1 hg hd hw
      have ht : fk (17 + i) := fk_m (by omega)
      have ht2 : fk (27 + i) := fk_l (by omega)
      have q := fkok S ht
      have q2 := fkok S ht2
      have sg := stepg g _ ht hg1 hg
      have sg2 := stepg _ _ ht2 sg.1 sg.2
      have kk := ih (i + 1) (Nat.gcd (Nat.gcd g (F (17 + i) f)) (F (27 + i) f)) (by omega) sg2.1 sg2.2 (fun t ht' hlt => by
        by_cases e : t = 27 + i
        · subst e; exact Nat.gcd_dvd_right _ _
        · refine Nat.dvd_trans (Nat.gcd_dvd_left _ _) ?_
          by_cases e : t = 17 + i
          · subst e; exact Nat.gcd_dvd_right _ _
          · exact Nat.dvd_trans (Nat.gcd_dvd_left _ _) (hd t ht' (by omega))) (fun w h => Nat.dvd_gcd (Nat.dvd_gcd (hw w h) (h _ ht)) (h _ ht2))
      rw [← nI_1] at kk
      have key := c_Fl_commonDivisor (l := l) (D := D) (ca := ca) (m := m) hg (hF31 _ ht)
      rw [← hF _ ht f hf] at key
      have key2 := c_Fl_commonDivisor (l := l) (D := D) (ca := ca) (m := m) sg.2 (hF31 _ ht2)
      rw [← hF _ ht2 f hf] at key2
      refine jm_run hX [(9, [0, 1, 2, 3])] 40 ?_
      refine And.intro (fun g => absurd g (nI_ge (show i < 9 by omega) (by decide))) (fun _ => ?_)
      refine And.intro o2 ⟨some (ad 16), r16, And.intro o16 (And.intro (vin_of l16 (by omega) (by decide)) ⟨some (ad (17 + i)), ?_, ?_⟩)⟩
      · rw [nI_c (by omega)]; exact S.2.2.2.2.1 i (by omega)
      refine And.intro q.1 (And.intro (vin_of q.2 hf (by decide)) ?_)
      refine ⟨Nat.le_of_ble_eq_true rfl, Nat.le_of_ble_eq_true rfl, 0, 0, _, Nat.le_refl _, Nat.le_refl _, (by rw [ecf]; exact key), fun v m' hq => ?_⟩
      obtain ⟨rfl, rfl⟩ := hq
      refine And.intro o2 ⟨some (ad 26), r26, And.intro o26 (And.intro (vin_of l26 (by omega) (by decide)) ⟨some (ad (27 + i)), ?_, ?_⟩)⟩
      · rw [nI_c (by omega)]; exact S.2.2.2.2.2.1 i (by omega)
      refine And.intro q2.1 (And.intro (vin_of q2.2 hf (by decide)) ?_)
      refine ⟨Nat.le_of_ble_eq_true rfl, Nat.le_of_ble_eq_true rfl, 0, 0, _, Nat.le_refl _, Nat.le_refl _, (by rw [ecf]; exact key2), fun v m' hq => ?_⟩
      obtain ⟨rfl, rfl⟩ := hq
      exact kk
  have r15 : m.2.2.2.2 (ad 2) 4 = some (ad 15) := S.2.2.1 (2, 4, 15) (by decide)
  have ht : fk 15 := Or.inl rfl
  have q := fkok S ht
  have kk := second 9 0 (F 15 f) (by omega) h1 (hF31 _ ht) (fun t ht hlt => by
    have : t = 15 := by omega
    subst this; exact Nat.dvd_refl _) (fun w h => h _ ht)
  rw [← hF _ ht f hf] at kk
  refine jm_run hX [(9, [0, 1, 2, 3])] 20 ?_
  refine And.intro o2 ⟨some (ad 15), r15, And.intro q.1 (And.intro (vin_of q.2 hf (by decide)) ?_)⟩
  have k2 : X 9 [(0, .ref (ad 2)), (1, .int (nI f)), (2, .int (m.2.2.1 (ad 15) (nI f).toNatClampNeg)), (3, .int (nI 0))] [] m 0 0 := by
    rw [ecf]; exact kk
  exact k2
end FL2
