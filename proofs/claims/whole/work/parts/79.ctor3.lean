section CT3
variable {l : Launch} {D : va_G} {ca : Nat → ClassId}
theorem c_Fl_init {m0 : jm_M} {ad0 : Nat → Nat} (h0 : ST m0 ad0 cD13 cR13) : jm_C l D ca n_Fl_init [.ref (ad0 2), .ref (ad0 1)] m0 263 2101 (fun v m' => v = none ∧ IFr m0 m' ∧ ∃ ad', (∀ k, cD13 k → ad' k = ad0 k) ∧ ST m' ad' cD32 cR32) := by
  refine jm_C_of (cd := cd_Fl_init) (ini := true) (by decide +kernel) ok_Fl_init (fun _ => rfl) (Nat.le_of_ble_eq_true rfl) ?_
  intro X hX
  generalize ho : ad0 2 = o
  have loop140 : ∀ (e j : Nat) (m : jm_M) (ad : Nat → Nat), j + e = 108 → ST m ad (fun k => cD31 k ∨ (100 ≤ k ∧ k < 100 + 2 * (0 + j))) (fun i g => (cR31 i g ∨ (100 ≤ i ∧ i < 100 + 2 * (0 + j) ∧ i % 2 = 0 ∧ g = 0)) ∨ (i = 40 ∧ g < j)) → IFr m0 m → (∀ k, cD13 k → ad k = ad0 k) → X 140 [(0, .ref o), (2, .int (nI j))] [] m (47 + 2 * j) (481 + 15 * j) := by
    intro e
    induction e with
    | zero =>
      intro j m ad hj s fr ax
      have hj2 : j = 108 := by omega
      subst hj2
      refine jm_run hX [] 10 ?_
      refine And.intro (fun _ => ?_) (fun g => ?_)
      · exact ⟨(Nat.le_of_ble_eq_true rfl), (Nat.le_of_ble_eq_true rfl), trivial, rfl, fr, ad, ax, s⟩
      · exact absurd (nI_le (show 108 ≤ 108 by omega) (by decide)) (show ¬ nI 108 ≤ nI 108 from g)
    | succ e ih =>
      intro j m ad hj s fr ax
      have so : ad 2 = o := (ax 2 (by simp only [cD13, cD12, cD11, cD10, cD9, cD8, cD7, cD6, cD5, cD4, cD3, cD2, cD1, cD0]; first | decide | omega)).trans ho
      have ks : cD31 2 := (by simp only [cD31, cD30, cD29, cD28, cD27, cD26, cD25, cD24, cD23, cD22, cD21, cD20, cD19, cD18, cD17, cD16, cD15, cD14, cD13, cD12, cD11, cD10, cD9, cD8, cD7, cD6, cD5, cD4, cD3, cD2, cD1, cD0]; first | decide | omega)
      have ka : cD31 40 := (by simp only [cD31, cD30, cD29, cD28, cD27, cD26, cD25, cD24, cD23, cD22, cD21, cD20, cD19, cD18, cD17, cD16, cD15, cD14, cD13, cD12, cD11, cD10, cD9, cD8, cD7, cD6, cD5, cD4, cD3, cD2, cD1, cD0]; first | decide | omega)
      obtain ⟨-, k', hk', -, href⟩ := s.2.2 2 8 (Or.inl (Or.inl (Or.inl (Or.inl (Or.inl (Or.inl (Or.inl (Or.inl (Or.inl (Or.inl (Or.inl (Or.inl (Or.inl (Or.inr ⟨rfl, rfl⟩))))))))))))))
      have hk2 : RF 2 8 = some 40 := by decide +kernel
      rw [hk2] at hk'
      cases hk'
      rw [so] at href
      have oka : jm_ok m (ad 40) 53 := s.ok (Or.inl ka)
      have lka : (m.2.1 (ad 40)).2 = 108 := by rw [(s.1 40 (Or.inl ka)).2.1]; rfl
      refine jm_run hX [(140, [0, 2])] 30 ?_
      refine And.intro (fun g => absurd (show nI 108 ≤ nI j from g) (nI_ge (by omega) (by omega))) (fun _ => ?_)
      refine And.intro (by rw [← so]; exact s.ok (k := 2) (Or.inl ks)) ⟨some (ad 40), href, ?_⟩
      refine And.intro (show 47 + 2 * j + 1 ≤ 263 by omega) (And.intro (show 481 + 15 * j + 2 ≤ 2101 by omega) (fun q hq => ?_))
      refine And.intro rfl ?_
      refine And.intro trivial (And.intro (Nat.le_of_ble_eq_true rfl) (And.intro (Nat.le_of_ble_eq_true rfl) ⟨1, 13, _, show 47 + 2 * j + 1 + 1 ≤ 263 by omega, show 481 + 15 * j + 2 + 13 ≤ 2101 by omega, c_Wh_init (ok_new (k := 4) (n := 0)), fun v m1 hw => ?_⟩))
      obtain ⟨rfl, p, hp, em⟩ := hw
      have fm : IFr m m1 := by rw [em]; exact ((IFr.aN hq).tr (IFr.aN hp)).tr IFr.uR
      have hno : ∀ x, (100 + 2 * (0 + j) ≤ x ∧ x ≤ 101 + 2 * (0 + j)) → ¬ (cD31 x ∨ (100 ≤ x ∧ x < 100 + 2 * (0 + j))) := fun x hx w => by
        rcases w with w | w
        · simp only [cD31, cD30, cD29, cD28, cD27, cD26, cD25, cD24, cD23, cD22, cD21, cD20, cD19, cD18, cD17, cD16, cD15, cD14, cD13, cD12, cD11, cD10, cD9, cD8, cD7, cD6, cD5, cD4, cD3, cD2, cD1, cD0] at w; omega
        · omega
      obtain ⟨ad1, ex, eq, s1⟩ := ST.wh (0 + j) s hq hp (hno _ (by omega)) (hno _ (by omega))
      rw [← em] at s1
      have ea : ad1 40 = ad 40 := ex 40 (Or.inl ka)
      refine And.intro (fm.ok oka) (And.intro (vin_of (by rw [(fm (ad 40) oka.1).2.2]; exact lka) (show j < 108 by omega) (by decide)) (And.intro ?_ ?_))
      · rw [← eq]
        have := s1.ok (k := 100 + 2 * (0 + j)) (Or.inr (Or.inl rfl))
        rw [kd_o] at this
        exact this
      have s2 := s1.ref (k := 40) (f := j) (k' := 100 + 2 * (0 + j)) (Or.inl (Or.inl ka)) (Or.inr (Or.inl rfl)) (by unfold RF; simp only [show (40 : Nat) < 100 by decide, if_true]; simp; omega)
      rw [ea, eq] at s2
      have kk := ih (j + 1) _ ad1 (by omega) (s2.mo (fun k => by
        by_cases hd : cD31 k
        · simp only [hd, true_or]
        · simp only [hd, false_or]; omega) (fun k f w => by
        by_cases hd : cR31 k f
        · simp only [hd, true_or]
        · simp only [hd, false_or] at w ⊢; omega)) ((fr.tr fm).tr IFr.uR) (fun k hk => (ex k (Or.inl (Or.inl (Or.inl (Or.inl (Or.inl (Or.inl (Or.inl (Or.inl (Or.inl (Or.inl (Or.inl (Or.inl (Or.inl (Or.inl (Or.inl (Or.inl (Or.inl hk)))))))))))))))))).trans (ax k hk))
      rw [show 47 + 2 * (j + 1) = 47 + 2 * j + 1 + 1 by omega, show 481 + 15 * (j + 1) = 481 + 15 * j + 2 + 13 by omega, ← nI_1] at kk
      have ej : (nI j).toNatClampNeg = j := nI_c (by omega)
      have kk2 : X 140 [(0, .ref o), (2, .int (nI j + 1))] [] (uR m1 (ad 40) (nI j).toNatClampNeg (some q)) (47 + 2 * j + 1 + 1) (481 + 15 * j + 2 + 13) := by
        rw [ej]; exact kk
      exact kk2
  have b133 : ∀ (m : jm_M) (ad : Nat → Nat), ST m ad cD30 cR30 → IFr m0 m → (∀ k, cD13 k → ad k = ad0 k) → X 133 [(0, .ref o), (1, .ref (ad0 1))] [] m 47 481 := by
    intro m ad s fr ax
    have so : ad 2 = o := (ax 2 (by simp only [cD13, cD12, cD11, cD10, cD9, cD8, cD7, cD6, cD5, cD4, cD3, cD2, cD1, cD0]; first | decide | omega)).trans ho
    have ks : cD30 2 := (by simp only [cD30, cD29, cD28, cD27, cD26, cD25, cD24, cD23, cD22, cD21, cD20, cD19, cD18, cD17, cD16, cD15, cD14, cD13, cD12, cD11, cD10, cD9, cD8, cD7, cD6, cD5, cD4, cD3, cD2, cD1, cD0]; first | decide | omega)
    have k1 : cD30 1 := (by simp only [cD30, cD29, cD28, cD27, cD26, cD25, cD24, cD23, cD22, cD21, cD20, cD19, cD18, cD17, cD16, cD15, cD14, cD13, cD12, cD11, cD10, cD9, cD8, cD7, cD6, cD5, cD4, cD3, cD2, cD1, cD0]; first | decide | omega)
    refine jm_run hX [(140, [0, 2])] 20 ?_
    refine And.intro (by rw [← so]; exact s.ok (k := 2) ks) ?_
    have s2 := s.ref (k := 2) (f := 2) (k' := 1) ks k1 (by decide +kernel)
    rw [so, ax 1 (by simp only [cD13, cD12, cD11, cD10, cD9, cD8, cD7, cD6, cD5, cD4, cD3, cD2, cD1, cD0]; first | decide | omega)] at s2
    exact loop140 108 0 _ ad (by omega) (ST.mo (dm := cD31) (rf := cR31) s2 (fun k => ⟨fun w => w.elim id (fun w => absurd w (by omega)), Or.inl⟩) (fun k f w => w.elim (fun w => w.elim id (fun w => absurd w (by omega))) (fun w => absurd w (by omega)))) (fr.tr IFr.uR) ax
  have b122 : ∀ (m : jm_M) (ad : Nat → Nat), ST m ad cD29 cR29 → IFr m0 m → (∀ k, cD13 k → ad k = ad0 k) → X 122 [(0, .ref o), (1, .ref (ad0 1))] [] m 45 466 := by
    intro m ad s fr ax
    have so : ad 2 = o := (ax 2 (by simp only [cD13, cD12, cD11, cD10, cD9, cD8, cD7, cD6, cD5, cD4, cD3, cD2, cD1, cD0]; first | decide | omega)).trans ho
    have ks : cD29 2 := (by simp only [cD29, cD28, cD27, cD26, cD25, cD24, cD23, cD22, cD21, cD20, cD19, cD18, cD17, cD16, cD15, cD14, cD13, cD12, cD11, cD10, cD9, cD8, cD7, cD6, cD5, cD4, cD3, cD2, cD1, cD0]; first | decide | omega)
    refine jm_run hX [(133, [0, 1])] 20 ?_
    refine And.intro (Nat.le_of_ble_eq_true rfl) (And.intro (Nat.le_of_ble_eq_true rfl) (fun q hq => ?_))
    refine And.intro rfl ?_
    refine And.intro trivial (And.intro (Nat.le_of_ble_eq_true rfl) (And.intro (Nat.le_of_ble_eq_true rfl) ⟨1, 13, _, (Nat.le_of_ble_eq_true rfl), (Nat.le_of_ble_eq_true rfl), c_Wh_init (ok_new (k := 4) (n := 0)), fun v m1 hw => ?_⟩))
    obtain ⟨rfl, p, hp, em⟩ := hw
    obtain ⟨ad1, ex, eq, s1⟩ := ST.wh 113 s hq hp (by simp only [cD29, cD28, cD27, cD26, cD25, cD24, cD23, cD22, cD21, cD20, cD19, cD18, cD17, cD16, cD15, cD14, cD13, cD12, cD11, cD10, cD9, cD8, cD7, cD6, cD5, cD4, cD3, cD2, cD1, cD0]; first | decide | omega) (by simp only [cD29, cD28, cD27, cD26, cD25, cD24, cD23, cD22, cD21, cD20, cD19, cD18, cD17, cD16, cD15, cD14, cD13, cD12, cD11, cD10, cD9, cD8, cD7, cD6, cD5, cD4, cD3, cD2, cD1, cD0]; first | decide | omega)
    have fr1 : IFr m0 m1 := fr.tr (by rw [em]; exact ((IFr.aN hq).tr (IFr.aN hp)).tr IFr.uR)
    rw [← em] at s1
    have so1 : ad1 2 = o := (ex 2 ks).trans so
    refine And.intro (by rw [← so1]; exact s1.ok (Or.inl ks)) ?_
    have s2 := s1.ref (k := 2) (f := 13) (k' := 100 + 2 * 113) (Or.inl ks) (Or.inr (Or.inl rfl)) (by decide +kernel)
    rw [so1, eq] at s2
    exact b133 _ ad1 s2 (fr1.tr IFr.uR) (fun k hk => (ex k (Or.inl (Or.inl (Or.inl (Or.inl (Or.inl (Or.inl (Or.inl (Or.inl (Or.inl (Or.inl (Or.inl (Or.inl (Or.inl (Or.inl (Or.inl hk)))))))))))))))).trans (ax k hk))
  have b111 : ∀ (m : jm_M) (ad : Nat → Nat), ST m ad cD28 cR28 → IFr m0 m → (∀ k, cD13 k → ad k = ad0 k) → X 111 [(0, .ref o), (1, .ref (ad0 1))] [] m 43 451 := by
    intro m ad s fr ax
    have so : ad 2 = o := (ax 2 (by simp only [cD13, cD12, cD11, cD10, cD9, cD8, cD7, cD6, cD5, cD4, cD3, cD2, cD1, cD0]; first | decide | omega)).trans ho
    have ks : cD28 2 := (by simp only [cD28, cD27, cD26, cD25, cD24, cD23, cD22, cD21, cD20, cD19, cD18, cD17, cD16, cD15, cD14, cD13, cD12, cD11, cD10, cD9, cD8, cD7, cD6, cD5, cD4, cD3, cD2, cD1, cD0]; first | decide | omega)
    refine jm_run hX [(122, [0, 1])] 20 ?_
    refine And.intro (Nat.le_of_ble_eq_true rfl) (And.intro (Nat.le_of_ble_eq_true rfl) (fun q hq => ?_))
    refine And.intro rfl ?_
    refine And.intro trivial (And.intro (Nat.le_of_ble_eq_true rfl) (And.intro (Nat.le_of_ble_eq_true rfl) ⟨1, 13, _, (Nat.le_of_ble_eq_true rfl), (Nat.le_of_ble_eq_true rfl), c_Wh_init (ok_new (k := 4) (n := 0)), fun v m1 hw => ?_⟩))
    obtain ⟨rfl, p, hp, em⟩ := hw
    obtain ⟨ad1, ex, eq, s1⟩ := ST.wh 112 s hq hp (by simp only [cD28, cD27, cD26, cD25, cD24, cD23, cD22, cD21, cD20, cD19, cD18, cD17, cD16, cD15, cD14, cD13, cD12, cD11, cD10, cD9, cD8, cD7, cD6, cD5, cD4, cD3, cD2, cD1, cD0]; first | decide | omega) (by simp only [cD28, cD27, cD26, cD25, cD24, cD23, cD22, cD21, cD20, cD19, cD18, cD17, cD16, cD15, cD14, cD13, cD12, cD11, cD10, cD9, cD8, cD7, cD6, cD5, cD4, cD3, cD2, cD1, cD0]; first | decide | omega)
    have fr1 : IFr m0 m1 := fr.tr (by rw [em]; exact ((IFr.aN hq).tr (IFr.aN hp)).tr IFr.uR)
    rw [← em] at s1
    have so1 : ad1 2 = o := (ex 2 ks).trans so
    refine And.intro (by rw [← so1]; exact s1.ok (Or.inl ks)) ?_
    have s2 := s1.ref (k := 2) (f := 12) (k' := 100 + 2 * 112) (Or.inl ks) (Or.inr (Or.inl rfl)) (by decide +kernel)
    rw [so1, eq] at s2
    exact b122 _ ad1 s2 (fr1.tr IFr.uR) (fun k hk => (ex k (Or.inl (Or.inl (Or.inl (Or.inl (Or.inl (Or.inl (Or.inl (Or.inl (Or.inl (Or.inl (Or.inl (Or.inl (Or.inl (Or.inl hk))))))))))))))).trans (ax k hk))
  have b100 : ∀ (m : jm_M) (ad : Nat → Nat), ST m ad cD27 cR27 → IFr m0 m → (∀ k, cD13 k → ad k = ad0 k) → X 100 [(0, .ref o), (1, .ref (ad0 1))] [] m 41 436 := by
    intro m ad s fr ax
    have so : ad 2 = o := (ax 2 (by simp only [cD13, cD12, cD11, cD10, cD9, cD8, cD7, cD6, cD5, cD4, cD3, cD2, cD1, cD0]; first | decide | omega)).trans ho
    have ks : cD27 2 := (by simp only [cD27, cD26, cD25, cD24, cD23, cD22, cD21, cD20, cD19, cD18, cD17, cD16, cD15, cD14, cD13, cD12, cD11, cD10, cD9, cD8, cD7, cD6, cD5, cD4, cD3, cD2, cD1, cD0]; first | decide | omega)
    refine jm_run hX [(111, [0, 1])] 20 ?_
    refine And.intro (Nat.le_of_ble_eq_true rfl) (And.intro (Nat.le_of_ble_eq_true rfl) (fun q hq => ?_))
    refine And.intro rfl ?_
    refine And.intro trivial (And.intro (Nat.le_of_ble_eq_true rfl) (And.intro (Nat.le_of_ble_eq_true rfl) ⟨1, 13, _, (Nat.le_of_ble_eq_true rfl), (Nat.le_of_ble_eq_true rfl), c_Wh_init (ok_new (k := 4) (n := 0)), fun v m1 hw => ?_⟩))
    obtain ⟨rfl, p, hp, em⟩ := hw
    obtain ⟨ad1, ex, eq, s1⟩ := ST.wh 111 s hq hp (by simp only [cD27, cD26, cD25, cD24, cD23, cD22, cD21, cD20, cD19, cD18, cD17, cD16, cD15, cD14, cD13, cD12, cD11, cD10, cD9, cD8, cD7, cD6, cD5, cD4, cD3, cD2, cD1, cD0]; first | decide | omega) (by simp only [cD27, cD26, cD25, cD24, cD23, cD22, cD21, cD20, cD19, cD18, cD17, cD16, cD15, cD14, cD13, cD12, cD11, cD10, cD9, cD8, cD7, cD6, cD5, cD4, cD3, cD2, cD1, cD0]; first | decide | omega)
    have fr1 : IFr m0 m1 := fr.tr (by rw [em]; exact ((IFr.aN hq).tr (IFr.aN hp)).tr IFr.uR)
    rw [← em] at s1
    have so1 : ad1 2 = o := (ex 2 ks).trans so
    refine And.intro (by rw [← so1]; exact s1.ok (Or.inl ks)) ?_
    have s2 := s1.ref (k := 2) (f := 11) (k' := 100 + 2 * 111) (Or.inl ks) (Or.inr (Or.inl rfl)) (by decide +kernel)
    rw [so1, eq] at s2
    exact b111 _ ad1 s2 (fr1.tr IFr.uR) (fun k hk => (ex k (Or.inl (Or.inl (Or.inl (Or.inl (Or.inl (Or.inl (Or.inl (Or.inl (Or.inl (Or.inl (Or.inl (Or.inl (Or.inl hk)))))))))))))).trans (ax k hk))
  have b89 : ∀ (m : jm_M) (ad : Nat → Nat), ST m ad cD26 cR26 → IFr m0 m → (∀ k, cD13 k → ad k = ad0 k) → X 89 [(0, .ref o), (1, .ref (ad0 1))] [] m 39 421 := by
    intro m ad s fr ax
    have so : ad 2 = o := (ax 2 (by simp only [cD13, cD12, cD11, cD10, cD9, cD8, cD7, cD6, cD5, cD4, cD3, cD2, cD1, cD0]; first | decide | omega)).trans ho
    have ks : cD26 2 := (by simp only [cD26, cD25, cD24, cD23, cD22, cD21, cD20, cD19, cD18, cD17, cD16, cD15, cD14, cD13, cD12, cD11, cD10, cD9, cD8, cD7, cD6, cD5, cD4, cD3, cD2, cD1, cD0]; first | decide | omega)
    refine jm_run hX [(100, [0, 1])] 20 ?_
    refine And.intro (Nat.le_of_ble_eq_true rfl) (And.intro (Nat.le_of_ble_eq_true rfl) (fun q hq => ?_))
    refine And.intro rfl ?_
    refine And.intro trivial (And.intro (Nat.le_of_ble_eq_true rfl) (And.intro (Nat.le_of_ble_eq_true rfl) ⟨1, 13, _, (Nat.le_of_ble_eq_true rfl), (Nat.le_of_ble_eq_true rfl), c_Wh_init (ok_new (k := 4) (n := 0)), fun v m1 hw => ?_⟩))
    obtain ⟨rfl, p, hp, em⟩ := hw
    obtain ⟨ad1, ex, eq, s1⟩ := ST.wh 110 s hq hp (by simp only [cD26, cD25, cD24, cD23, cD22, cD21, cD20, cD19, cD18, cD17, cD16, cD15, cD14, cD13, cD12, cD11, cD10, cD9, cD8, cD7, cD6, cD5, cD4, cD3, cD2, cD1, cD0]; first | decide | omega) (by simp only [cD26, cD25, cD24, cD23, cD22, cD21, cD20, cD19, cD18, cD17, cD16, cD15, cD14, cD13, cD12, cD11, cD10, cD9, cD8, cD7, cD6, cD5, cD4, cD3, cD2, cD1, cD0]; first | decide | omega)
    have fr1 : IFr m0 m1 := fr.tr (by rw [em]; exact ((IFr.aN hq).tr (IFr.aN hp)).tr IFr.uR)
    rw [← em] at s1
    have so1 : ad1 2 = o := (ex 2 ks).trans so
    refine And.intro (by rw [← so1]; exact s1.ok (Or.inl ks)) ?_
    have s2 := s1.ref (k := 2) (f := 10) (k' := 100 + 2 * 110) (Or.inl ks) (Or.inr (Or.inl rfl)) (by decide +kernel)
    rw [so1, eq] at s2
    exact b100 _ ad1 s2 (fr1.tr IFr.uR) (fun k hk => (ex k (Or.inl (Or.inl (Or.inl (Or.inl (Or.inl (Or.inl (Or.inl (Or.inl (Or.inl (Or.inl (Or.inl (Or.inl hk))))))))))))).trans (ax k hk))
  have b78 : ∀ (m : jm_M) (ad : Nat → Nat), ST m ad cD25 cR25 → IFr m0 m → (∀ k, cD13 k → ad k = ad0 k) → X 78 [(0, .ref o), (1, .ref (ad0 1))] [] m 37 406 := by
    intro m ad s fr ax
    have so : ad 2 = o := (ax 2 (by simp only [cD13, cD12, cD11, cD10, cD9, cD8, cD7, cD6, cD5, cD4, cD3, cD2, cD1, cD0]; first | decide | omega)).trans ho
    have ks : cD25 2 := (by simp only [cD25, cD24, cD23, cD22, cD21, cD20, cD19, cD18, cD17, cD16, cD15, cD14, cD13, cD12, cD11, cD10, cD9, cD8, cD7, cD6, cD5, cD4, cD3, cD2, cD1, cD0]; first | decide | omega)
    refine jm_run hX [(89, [0, 1])] 20 ?_
    refine And.intro (Nat.le_of_ble_eq_true rfl) (And.intro (Nat.le_of_ble_eq_true rfl) (fun q hq => ?_))
    refine And.intro rfl ?_
    refine And.intro trivial (And.intro (Nat.le_of_ble_eq_true rfl) (And.intro (Nat.le_of_ble_eq_true rfl) ⟨1, 13, _, (Nat.le_of_ble_eq_true rfl), (Nat.le_of_ble_eq_true rfl), c_Wh_init (ok_new (k := 4) (n := 0)), fun v m1 hw => ?_⟩))
    obtain ⟨rfl, p, hp, em⟩ := hw
    obtain ⟨ad1, ex, eq, s1⟩ := ST.wh 109 s hq hp (by simp only [cD25, cD24, cD23, cD22, cD21, cD20, cD19, cD18, cD17, cD16, cD15, cD14, cD13, cD12, cD11, cD10, cD9, cD8, cD7, cD6, cD5, cD4, cD3, cD2, cD1, cD0]; first | decide | omega) (by simp only [cD25, cD24, cD23, cD22, cD21, cD20, cD19, cD18, cD17, cD16, cD15, cD14, cD13, cD12, cD11, cD10, cD9, cD8, cD7, cD6, cD5, cD4, cD3, cD2, cD1, cD0]; first | decide | omega)
    have fr1 : IFr m0 m1 := fr.tr (by rw [em]; exact ((IFr.aN hq).tr (IFr.aN hp)).tr IFr.uR)
    rw [← em] at s1
    have so1 : ad1 2 = o := (ex 2 ks).trans so
    refine And.intro (by rw [← so1]; exact s1.ok (Or.inl ks)) ?_
    have s2 := s1.ref (k := 2) (f := 9) (k' := 100 + 2 * 109) (Or.inl ks) (Or.inr (Or.inl rfl)) (by decide +kernel)
    rw [so1, eq] at s2
    exact b89 _ ad1 s2 (fr1.tr IFr.uR) (fun k hk => (ex k (Or.inl (Or.inl (Or.inl (Or.inl (Or.inl (Or.inl (Or.inl (Or.inl (Or.inl (Or.inl (Or.inl hk)))))))))))).trans (ax k hk))
  have b69 : ∀ (m : jm_M) (ad : Nat → Nat), ST m ad cD24 cR24 → IFr m0 m → (∀ k, cD13 k → ad k = ad0 k) → X 69 [(0, .ref o), (1, .ref (ad0 1))] [] m 36 298 := by
    intro m ad s fr ax
    have so : ad 2 = o := (ax 2 (by simp only [cD13, cD12, cD11, cD10, cD9, cD8, cD7, cD6, cD5, cD4, cD3, cD2, cD1, cD0]; first | decide | omega)).trans ho
    have ks : cD24 2 := (by simp only [cD24, cD23, cD22, cD21, cD20, cD19, cD18, cD17, cD16, cD15, cD14, cD13, cD12, cD11, cD10, cD9, cD8, cD7, cD6, cD5, cD4, cD3, cD2, cD1, cD0]; first | decide | omega)
    refine jm_run hX [(78, [0, 1])] 20 ?_
    refine And.intro (by decide) (And.intro (by decide) (And.intro (Nat.le_of_ble_eq_true rfl) (And.intro (Nat.le_of_ble_eq_true rfl) (fun q hq => ?_))))
    have nk : ¬ cD24 40 := (by simp only [cD24, cD23, cD22, cD21, cD20, cD19, cD18, cD17, cD16, cD15, cD14, cD13, cD12, cD11, cD10, cD9, cD8, cD7, cD6, cD5, cD4, cD3, cD2, cD1, cD0]; first | decide | omega)
    have s1 := s.new (q := q) (k := 40) (c := 53) (n := 108) hq nk rfl
    have so1 : va_up ad 40 q 2 = o := (va_up_ne _ _ (by decide)).trans so
    have eq : va_up ad 40 q 40 = q := va_up_self _ _ _
    refine And.intro (by rw [← so1]; exact s1.ok (k := 2) (Or.inl ks)) ?_
    have s2 := s1.ref (k := 2) (f := 8) (k' := 40) (Or.inl ks) (Or.inr rfl) (by decide +kernel)
    rw [so1, eq] at s2
    exact b78 _ _ s2 ((fr.tr (IFr.aN hq)).tr IFr.uR) (fun k hk => (va_up_ne _ _ (fun e => nk (by rw [← e]; exact (Or.inl (Or.inl (Or.inl (Or.inl (Or.inl (Or.inl (Or.inl (Or.inl (Or.inl (Or.inl hk))))))))))))).trans (ax k hk))
  have b58 : ∀ (m : jm_M) (ad : Nat → Nat), ST m ad cD23 cR23 → IFr m0 m → (∀ k, cD13 k → ad k = ad0 k) → X 58 [(0, .ref o), (1, .ref (ad0 1))] [] m 32 268 := by
    intro m ad s fr ax
    have so : ad 2 = o := (ax 2 (by simp only [cD13, cD12, cD11, cD10, cD9, cD8, cD7, cD6, cD5, cD4, cD3, cD2, cD1, cD0]; first | decide | omega)).trans ho
    have ks : cD23 2 := (by simp only [cD23, cD22, cD21, cD20, cD19, cD18, cD17, cD16, cD15, cD14, cD13, cD12, cD11, cD10, cD9, cD8, cD7, cD6, cD5, cD4, cD3, cD2, cD1, cD0]; first | decide | omega)
    refine jm_run hX [(69, [0, 1])] 20 ?_
    refine And.intro (by decide) (And.intro (by decide) (And.intro (by decide) (And.intro (by decide) (And.intro (Nat.le_of_ble_eq_true rfl) (And.intro (Nat.le_of_ble_eq_true rfl) (fun q rw hq hr hi => ?_))))))
    obtain ⟨ad1, ex, eq, s1⟩ := s.mn (q := q) (rw := rw) (k0 := 36) (n := 3) hq hr hi (fun k h1 h2 => (by simp only [cD23, cD22, cD21, cD20, cD19, cD18, cD17, cD16, cD15, cD14, cD13, cD12, cD11, cD10, cD9, cD8, cD7, cD6, cD5, cD4, cD3, cD2, cD1, cD0]; first | decide | omega)) rfl (by decide +kernel) (by decide +kernel)
    have so1 : ad1 2 = o := (ex 2 ks).trans so
    refine And.intro (by rw [← so1]; exact s1.ok (k := 2) (Or.inl ks)) ?_
    have s2 := s1.ref (k := 2) (f := 7) (k' := 36) (Or.inl ks) (Or.inr ⟨Nat.le_refl _, by omega⟩) (by decide +kernel)
    rw [so1, eq] at s2
    exact b69 _ ad1 s2 ((fr.tr (IFr.aNN hq hr)).tr IFr.uR) (fun k hk => (ex k (Or.inl (Or.inl (Or.inl (Or.inl (Or.inl (Or.inl (Or.inl (Or.inl (Or.inl hk)))))))))).trans (ax k hk))
  have b46 : ∀ (m : jm_M) (ad : Nat → Nat), ST m ad cD22 cR22 → IFr m0 m → (∀ k, cD13 k → ad k = ad0 k) → X 46 [(0, .ref o), (1, .ref (ad0 1))] [] m 22 178 := by
    intro m ad s fr ax
    have so : ad 2 = o := (ax 2 (by simp only [cD13, cD12, cD11, cD10, cD9, cD8, cD7, cD6, cD5, cD4, cD3, cD2, cD1, cD0]; first | decide | omega)).trans ho
    have ks : cD22 2 := (by simp only [cD22, cD21, cD20, cD19, cD18, cD17, cD16, cD15, cD14, cD13, cD12, cD11, cD10, cD9, cD8, cD7, cD6, cD5, cD4, cD3, cD2, cD1, cD0]; first | decide | omega)
    refine jm_run hX [(58, [0, 1])] 20 ?_
    refine And.intro (by decide) (And.intro (by decide) (And.intro (by decide) (And.intro (by decide) (And.intro (Nat.le_of_ble_eq_true rfl) (And.intro (Nat.le_of_ble_eq_true rfl) (fun q rw hq hr hi => ?_))))))
    obtain ⟨ad1, ex, eq, s1⟩ := s.mn (q := q) (rw := rw) (k0 := 26) (n := 9) hq hr hi (fun k h1 h2 => (by simp only [cD22, cD21, cD20, cD19, cD18, cD17, cD16, cD15, cD14, cD13, cD12, cD11, cD10, cD9, cD8, cD7, cD6, cD5, cD4, cD3, cD2, cD1, cD0]; first | decide | omega)) rfl (by decide +kernel) (by decide +kernel)
    have so1 : ad1 2 = o := (ex 2 ks).trans so
    refine And.intro (by rw [← so1]; exact s1.ok (k := 2) (Or.inl ks)) ?_
    have s2 := s1.ref (k := 2) (f := 6) (k' := 26) (Or.inl ks) (Or.inr ⟨Nat.le_refl _, by omega⟩) (by decide +kernel)
    rw [so1, eq] at s2
    exact b58 _ ad1 s2 ((fr.tr (IFr.aNN hq hr)).tr IFr.uR) (fun k hk => (ex k (Or.inl (Or.inl (Or.inl (Or.inl (Or.inl (Or.inl (Or.inl (Or.inl hk))))))))).trans (ax k hk))
  have b34 : ∀ (m : jm_M) (ad : Nat → Nat), ST m ad cD21 cR21 → IFr m0 m → (∀ k, cD13 k → ad k = ad0 k) → X 34 [(0, .ref o), (1, .ref (ad0 1))] [] m 12 88 := by
    intro m ad s fr ax
    have so : ad 2 = o := (ax 2 (by simp only [cD13, cD12, cD11, cD10, cD9, cD8, cD7, cD6, cD5, cD4, cD3, cD2, cD1, cD0]; first | decide | omega)).trans ho
    have ks : cD21 2 := (by simp only [cD21, cD20, cD19, cD18, cD17, cD16, cD15, cD14, cD13, cD12, cD11, cD10, cD9, cD8, cD7, cD6, cD5, cD4, cD3, cD2, cD1, cD0]; first | decide | omega)
    refine jm_run hX [(46, [0, 1])] 20 ?_
    refine And.intro (by decide) (And.intro (by decide) (And.intro (by decide) (And.intro (by decide) (And.intro (Nat.le_of_ble_eq_true rfl) (And.intro (Nat.le_of_ble_eq_true rfl) (fun q rw hq hr hi => ?_))))))
    obtain ⟨ad1, ex, eq, s1⟩ := s.mn (q := q) (rw := rw) (k0 := 16) (n := 9) hq hr hi (fun k h1 h2 => (by simp only [cD21, cD20, cD19, cD18, cD17, cD16, cD15, cD14, cD13, cD12, cD11, cD10, cD9, cD8, cD7, cD6, cD5, cD4, cD3, cD2, cD1, cD0]; first | decide | omega)) rfl (by decide +kernel) (by decide +kernel)
    have so1 : ad1 2 = o := (ex 2 ks).trans so
    refine And.intro (by rw [← so1]; exact s1.ok (k := 2) (Or.inl ks)) ?_
    have s2 := s1.ref (k := 2) (f := 5) (k' := 16) (Or.inl ks) (Or.inr ⟨Nat.le_refl _, by omega⟩) (by decide +kernel)
    rw [so1, eq] at s2
    exact b46 _ ad1 s2 ((fr.tr (IFr.aNN hq hr)).tr IFr.uR) (fun k hk => (ex k (Or.inl (Or.inl (Or.inl (Or.inl (Or.inl (Or.inl (Or.inl hk)))))))).trans (ax k hk))
  have b26 : ∀ (m : jm_M) (ad : Nat → Nat), ST m ad cD20 cR20 → IFr m0 m → (∀ k, cD13 k → ad k = ad0 k) → X 26 [(0, .ref o), (1, .ref (ad0 1))] [] m 11 79 := by
    intro m ad s fr ax
    have so : ad 2 = o := (ax 2 (by simp only [cD13, cD12, cD11, cD10, cD9, cD8, cD7, cD6, cD5, cD4, cD3, cD2, cD1, cD0]; first | decide | omega)).trans ho
    have ks : cD20 2 := (by simp only [cD20, cD19, cD18, cD17, cD16, cD15, cD14, cD13, cD12, cD11, cD10, cD9, cD8, cD7, cD6, cD5, cD4, cD3, cD2, cD1, cD0]; first | decide | omega)
    refine jm_run hX [(34, [0, 1])] 20 ?_
    refine And.intro (by decide) (And.intro (by decide) (And.intro (Nat.le_of_ble_eq_true rfl) (And.intro (Nat.le_of_ble_eq_true rfl) (fun q hq => ?_))))
    have nk : ¬ cD20 15 := (by simp only [cD20, cD19, cD18, cD17, cD16, cD15, cD14, cD13, cD12, cD11, cD10, cD9, cD8, cD7, cD6, cD5, cD4, cD3, cD2, cD1, cD0]; first | decide | omega)
    have s1 := s.new (q := q) (k := 15) (c := 50) (n := 9) hq nk rfl
    have so1 : va_up ad 15 q 2 = o := (va_up_ne _ _ (by decide)).trans so
    have eq : va_up ad 15 q 15 = q := va_up_self _ _ _
    refine And.intro (by rw [← so1]; exact s1.ok (k := 2) (Or.inl ks)) ?_
    have s2 := s1.ref (k := 2) (f := 4) (k' := 15) (Or.inl ks) (Or.inr rfl) (by decide +kernel)
    rw [so1, eq] at s2
    exact b34 _ _ s2 ((fr.tr (IFr.aN hq)).tr IFr.uR) (fun k hk => (va_up_ne _ _ (fun e => nk (by rw [← e]; exact (Or.inl (Or.inl (Or.inl (Or.inl (Or.inl (Or.inl hk))))))))).trans (ax k hk))
  have b15 : ∀ (m : jm_M) (ad : Nat → Nat), ST m ad cD19 cR19 → IFr m0 m → (∀ k, cD13 k → ad k = ad0 k) → X 15 [(0, .ref o), (1, .ref (ad0 1))] [] m 9 64 := by
    intro m ad s fr ax
    have so : ad 2 = o := (ax 2 (by simp only [cD13, cD12, cD11, cD10, cD9, cD8, cD7, cD6, cD5, cD4, cD3, cD2, cD1, cD0]; first | decide | omega)).trans ho
    have ks : cD19 2 := (by simp only [cD19, cD18, cD17, cD16, cD15, cD14, cD13, cD12, cD11, cD10, cD9, cD8, cD7, cD6, cD5, cD4, cD3, cD2, cD1, cD0]; first | decide | omega)
    refine jm_run hX [(26, [0, 1])] 20 ?_
    refine And.intro (Nat.le_of_ble_eq_true rfl) (And.intro (Nat.le_of_ble_eq_true rfl) (fun q hq => ?_))
    refine And.intro rfl ?_
    refine And.intro trivial (And.intro (Nat.le_of_ble_eq_true rfl) (And.intro (Nat.le_of_ble_eq_true rfl) ⟨1, 13, _, (Nat.le_of_ble_eq_true rfl), (Nat.le_of_ble_eq_true rfl), c_Wh_init (ok_new (k := 4) (n := 0)), fun v m1 hw => ?_⟩))
    obtain ⟨rfl, p, hp, em⟩ := hw
    obtain ⟨ad1, ex, eq, s1⟩ := ST.wh 108 s hq hp (by simp only [cD19, cD18, cD17, cD16, cD15, cD14, cD13, cD12, cD11, cD10, cD9, cD8, cD7, cD6, cD5, cD4, cD3, cD2, cD1, cD0]; first | decide | omega) (by simp only [cD19, cD18, cD17, cD16, cD15, cD14, cD13, cD12, cD11, cD10, cD9, cD8, cD7, cD6, cD5, cD4, cD3, cD2, cD1, cD0]; first | decide | omega)
    have fr1 : IFr m0 m1 := fr.tr (by rw [em]; exact ((IFr.aN hq).tr (IFr.aN hp)).tr IFr.uR)
    rw [← em] at s1
    have so1 : ad1 2 = o := (ex 2 ks).trans so
    refine And.intro (by rw [← so1]; exact s1.ok (Or.inl ks)) ?_
    have s2 := s1.ref (k := 2) (f := 1) (k' := 100 + 2 * 108) (Or.inl ks) (Or.inr (Or.inl rfl)) (by decide +kernel)
    rw [so1, eq] at s2
    exact b26 _ ad1 s2 (fr1.tr IFr.uR) (fun k hk => (ex k (Or.inl (Or.inl (Or.inl (Or.inl (Or.inl hk)))))).trans (ax k hk))
  have b4 : ∀ (m : jm_M) (ad : Nat → Nat), ST m ad cD13 cR13 → IFr m0 m → (∀ k, cD13 k → ad k = ad0 k) → X 4 [(0, .ref o), (1, .ref (ad0 1))] [] m 0 0 := by
    intro m ad s fr ax
    have so : ad 2 = o := (ax 2 (by simp only [cD13, cD12, cD11, cD10, cD9, cD8, cD7, cD6, cD5, cD4, cD3, cD2, cD1, cD0]; first | decide | omega)).trans ho
    have ks : cD13 2 := (by simp only [cD13, cD12, cD11, cD10, cD9, cD8, cD7, cD6, cD5, cD4, cD3, cD2, cD1, cD0]; first | decide | omega)
    refine jm_run hX [(15, [0, 1])] 20 ?_
    refine And.intro (Nat.le_of_ble_eq_true rfl) (And.intro (Nat.le_of_ble_eq_true rfl) (fun q hq => ?_))
    refine And.intro rfl ?_
    have nk : ¬ cD13 4 := (by simp only [cD13, cD12, cD11, cD10, cD9, cD8, cD7, cD6, cD5, cD4, cD3, cD2, cD1, cD0]; first | decide | omega)
    have s0 : ST (aN m q 0 0) (va_up ad 4 q) cD14 cR14 := s.new (q := q) (k := 4) (c := 0) (n := 0) hq nk rfl
    have eq0 : va_up ad 4 q 4 = q := va_up_self _ _ _
    have kc := c_Dv_init (l := l) (D := D) (ca := ca) s0
    rw [eq0] at kc
    refine And.intro trivial (And.intro (Nat.le_of_ble_eq_true rfl) (And.intro (Nat.le_of_ble_eq_true rfl) ⟨8, 60, _, (Nat.le_of_ble_eq_true rfl), (Nat.le_of_ble_eq_true rfl), kc, fun v m1 hw => ?_⟩))
    obtain ⟨rfl, fi, ad1, ex, s1⟩ := hw
    have eq1 : ad1 4 = q := (ex 4 (by simp only [cD14, cD13, cD12, cD11, cD10, cD9, cD8, cD7, cD6, cD5, cD4, cD3, cD2, cD1, cD0]; first | decide | omega)).trans eq0
    have so1 : ad1 2 = o := (ex 2 (Or.inl ks)).trans ((va_up_ne _ _ (by decide)).trans so)
    refine And.intro (by rw [← so1]; exact s1.ok (k := 2) (Or.inl (Or.inl (Or.inl (Or.inl (Or.inl ks)))))) ?_
    have s2 := s1.ref (k := 2) (f := 0) (k' := 4) (Or.inl (Or.inl (Or.inl (Or.inl (Or.inl ks))))) (by simp only [cD18, cD17, cD16, cD15, cD14, cD13, cD12, cD11, cD10, cD9, cD8, cD7, cD6, cD5, cD4, cD3, cD2, cD1, cD0]; first | decide | omega) (by decide +kernel)
    rw [so1, eq1] at s2
    exact b15 _ ad1 s2 (((fr.tr (IFr.aN hq)).tr fi).tr IFr.uR) (fun k hk => (ex k (Or.inl hk)).trans ((va_up_ne _ _ (fun e => nk (by rw [← e]; exact hk))).trans (ax k hk)))
  refine jm_run hX [(4, [0, 1])] 5 ?_
  refine And.intro (Nat.le_of_ble_eq_true rfl) ?_
  exact b4 m0 ad0 h0 IFr.rf (fun _ _ => rfl)

theorem c_So_init {m0 : jm_M} {ad0 : Nat → Nat} (h0 : ST m0 ad0 cD34 cR34) : jm_C l D ca n_So_init [.ref (ad0 3)] m0 30 222 (fun v m' => v = none ∧ IFr m0 m' ∧ ∃ ad', (∀ k, cD34 k → ad' k = ad0 k) ∧ ST m' ad' cD40 cR40) := by
  refine jm_C_of (cd := cd_So_init) (ini := true) (by decide +kernel) ok_So_init (fun _ => rfl) (Nat.le_of_ble_eq_true rfl) ?_
  intro X hX
  generalize ho : ad0 3 = o
  have loop72 : ∀ (e j : Nat) (m : jm_M) (ad : Nat → Nat), j + e = 3 → ST m ad (fun k => cD39 k ∨ (356 ≤ k ∧ k < 100 + 2 * (128 + j))) (fun i g => (cR39 i g ∨ (356 ≤ i ∧ i < 100 + 2 * (128 + j) ∧ i % 2 = 0 ∧ g = 0)) ∨ (i = 42 ∧ g < j)) → IFr m0 m → (∀ k, cD34 k → ad k = ad0 k) → X 72 [(0, .ref o), (1, .int (nI j))] [] m (24 + 2 * j) (177 + 15 * j) := by
    intro e
    induction e with
    | zero =>
      intro j m ad hj s fr ax
      have hj2 : j = 3 := by omega
      subst hj2
      refine jm_run hX [] 10 ?_
      refine And.intro (fun _ => ?_) (fun g => ?_)
      · exact ⟨(Nat.le_of_ble_eq_true rfl), (Nat.le_of_ble_eq_true rfl), trivial, rfl, fr, ad, ax, s⟩
      · exact absurd (nI_le (show 3 ≤ 3 by omega) (by decide)) (show ¬ nI 3 ≤ nI 3 from g)
    | succ e ih =>
      intro j m ad hj s fr ax
      have so : ad 3 = o := (ax 3 (by simp only [cD34, cD33, cD32, cD31, cD30, cD29, cD28, cD27, cD26, cD25, cD24, cD23, cD22, cD21, cD20, cD19, cD18, cD17, cD16, cD15, cD14, cD13, cD12, cD11, cD10, cD9, cD8, cD7, cD6, cD5, cD4, cD3, cD2, cD1, cD0]; first | decide | omega)).trans ho
      have ks : cD39 3 := (by simp only [cD39, cD38, cD37, cD36, cD35, cD34, cD33, cD32, cD31, cD30, cD29, cD28, cD27, cD26, cD25, cD24, cD23, cD22, cD21, cD20, cD19, cD18, cD17, cD16, cD15, cD14, cD13, cD12, cD11, cD10, cD9, cD8, cD7, cD6, cD5, cD4, cD3, cD2, cD1, cD0]; first | decide | omega)
      have ka : cD39 42 := (by simp only [cD39, cD38, cD37, cD36, cD35, cD34, cD33, cD32, cD31, cD30, cD29, cD28, cD27, cD26, cD25, cD24, cD23, cD22, cD21, cD20, cD19, cD18, cD17, cD16, cD15, cD14, cD13, cD12, cD11, cD10, cD9, cD8, cD7, cD6, cD5, cD4, cD3, cD2, cD1, cD0]; first | decide | omega)
      obtain ⟨-, k', hk', -, href⟩ := s.2.2 3 5 (Or.inl (Or.inl (Or.inl (Or.inl (Or.inl (Or.inl (Or.inr ⟨rfl, rfl⟩)))))))
      have hk2 : RF 3 5 = some 42 := by decide +kernel
      rw [hk2] at hk'
      cases hk'
      rw [so] at href
      have oka : jm_ok m (ad 42) 53 := s.ok (Or.inl ka)
      have lka : (m.2.1 (ad 42)).2 = 3 := by rw [(s.1 42 (Or.inl ka)).2.1]; rfl
      refine jm_run hX [(72, [0, 1])] 30 ?_
      refine And.intro (fun g => absurd (show nI 3 ≤ nI j from g) (nI_ge (by omega) (by omega))) (fun _ => ?_)
      refine And.intro (by rw [← so]; exact s.ok (k := 3) (Or.inl ks)) ⟨some (ad 42), href, ?_⟩
      refine And.intro (show 24 + 2 * j + 1 ≤ 30 by omega) (And.intro (show 177 + 15 * j + 2 ≤ 222 by omega) (fun q hq => ?_))
      refine And.intro rfl ?_
      refine And.intro trivial (And.intro (Nat.le_of_ble_eq_true rfl) (And.intro (Nat.le_of_ble_eq_true rfl) ⟨1, 13, _, show 24 + 2 * j + 1 + 1 ≤ 30 by omega, show 177 + 15 * j + 2 + 13 ≤ 222 by omega, c_Wh_init (ok_new (k := 4) (n := 0)), fun v m1 hw => ?_⟩))
      obtain ⟨rfl, p, hp, em⟩ := hw
      have fm : IFr m m1 := by rw [em]; exact ((IFr.aN hq).tr (IFr.aN hp)).tr IFr.uR
      have hno : ∀ x, (100 + 2 * (128 + j) ≤ x ∧ x ≤ 101 + 2 * (128 + j)) → ¬ (cD39 x ∨ (356 ≤ x ∧ x < 100 + 2 * (128 + j))) := fun x hx w => by
        rcases w with w | w
        · simp only [cD39, cD38, cD37, cD36, cD35, cD34, cD33, cD32, cD31, cD30, cD29, cD28, cD27, cD26, cD25, cD24, cD23, cD22, cD21, cD20, cD19, cD18, cD17, cD16, cD15, cD14, cD13, cD12, cD11, cD10, cD9, cD8, cD7, cD6, cD5, cD4, cD3, cD2, cD1, cD0] at w; omega
        · omega
      obtain ⟨ad1, ex, eq, s1⟩ := ST.wh (128 + j) s hq hp (hno _ (by omega)) (hno _ (by omega))
      rw [← em] at s1
      have ea : ad1 42 = ad 42 := ex 42 (Or.inl ka)
      refine And.intro (fm.ok oka) (And.intro (vin_of (by rw [(fm (ad 42) oka.1).2.2]; exact lka) (show j < 3 by omega) (by decide)) (And.intro ?_ ?_))
      · rw [← eq]
        have := s1.ok (k := 100 + 2 * (128 + j)) (Or.inr (Or.inl rfl))
        rw [kd_o] at this
        exact this
      have s2 := s1.ref (k := 42) (f := j) (k' := 100 + 2 * (128 + j)) (Or.inl (Or.inl ka)) (Or.inr (Or.inl rfl)) (by unfold RF; simp only [show (42 : Nat) < 100 by decide, if_true]; simp; omega)
      rw [ea, eq] at s2
      have kk := ih (j + 1) _ ad1 (by omega) (s2.mo (fun k => by
        by_cases hd : cD39 k
        · simp only [hd, true_or]
        · simp only [hd, false_or]; omega) (fun k f w => by
        by_cases hd : cR39 k f
        · simp only [hd, true_or]
        · simp only [hd, false_or] at w ⊢; omega)) ((fr.tr fm).tr IFr.uR) (fun k hk => (ex k (Or.inl (Or.inl (Or.inl (Or.inl (Or.inl (Or.inl hk))))))).trans (ax k hk))
      rw [show 24 + 2 * (j + 1) = 24 + 2 * j + 1 + 1 by omega, show 177 + 15 * (j + 1) = 177 + 15 * j + 2 + 13 by omega, ← nI_1] at kk
      have ej : (nI j).toNatClampNeg = j := nI_c (by omega)
      have kk2 : X 72 [(0, .ref o), (1, .int (nI j + 1))] [] (uR m1 (ad 42) (nI j).toNatClampNeg (some q)) (24 + 2 * j + 1 + 1) (177 + 15 * j + 2 + 13) := by
        rw [ej]; exact kk
      exact kk2
  have loop45 : ∀ (e j : Nat) (m : jm_M) (ad : Nat → Nat), j + e = 9 → ST m ad (fun k => cD38 k ∨ (338 ≤ k ∧ k < 100 + 2 * (119 + j))) (fun i g => (cR38 i g ∨ (338 ≤ i ∧ i < 100 + 2 * (119 + j) ∧ i % 2 = 0 ∧ g = 0)) ∨ (i = 41 ∧ g < j)) → IFr m0 m → (∀ k, cD34 k → ad k = ad0 k) → X 45 [(0, .ref o), (1, .int (nI j))] [] m (6 + 2 * j) (42 + 15 * j) := by
    intro e
    induction e with
    | zero =>
      intro j m ad hj s fr ax
      have hj2 : j = 9 := by omega
      subst hj2
      refine jm_run hX [(72, [0, 1])] 10 ?_
      refine And.intro (fun _ => ?_) (fun g => ?_)
      · exact loop72 3 0 _ ad (by omega) (ST.mo (dm := cD39) (rf := cR39) s (fun k => ⟨fun w => w.elim id (fun w => absurd w (by omega)), Or.inl⟩) (fun k f w => w.elim (fun w => w.elim id (fun w => absurd w (by omega))) (fun w => absurd w (by omega)))) fr ax
      · exact absurd (nI_le (show 9 ≤ 9 by omega) (by decide)) (show ¬ nI 9 ≤ nI 9 from g)
    | succ e ih =>
      intro j m ad hj s fr ax
      have so : ad 3 = o := (ax 3 (by simp only [cD34, cD33, cD32, cD31, cD30, cD29, cD28, cD27, cD26, cD25, cD24, cD23, cD22, cD21, cD20, cD19, cD18, cD17, cD16, cD15, cD14, cD13, cD12, cD11, cD10, cD9, cD8, cD7, cD6, cD5, cD4, cD3, cD2, cD1, cD0]; first | decide | omega)).trans ho
      have ks : cD38 3 := (by simp only [cD38, cD37, cD36, cD35, cD34, cD33, cD32, cD31, cD30, cD29, cD28, cD27, cD26, cD25, cD24, cD23, cD22, cD21, cD20, cD19, cD18, cD17, cD16, cD15, cD14, cD13, cD12, cD11, cD10, cD9, cD8, cD7, cD6, cD5, cD4, cD3, cD2, cD1, cD0]; first | decide | omega)
      have ka : cD38 41 := (by simp only [cD38, cD37, cD36, cD35, cD34, cD33, cD32, cD31, cD30, cD29, cD28, cD27, cD26, cD25, cD24, cD23, cD22, cD21, cD20, cD19, cD18, cD17, cD16, cD15, cD14, cD13, cD12, cD11, cD10, cD9, cD8, cD7, cD6, cD5, cD4, cD3, cD2, cD1, cD0]; first | decide | omega)
      obtain ⟨-, k', hk', -, href⟩ := s.2.2 3 4 (Or.inl (Or.inl (Or.inl (Or.inl (Or.inl (Or.inr ⟨rfl, rfl⟩))))))
      have hk2 : RF 3 4 = some 41 := by decide +kernel
      rw [hk2] at hk'
      cases hk'
      rw [so] at href
      have oka : jm_ok m (ad 41) 53 := s.ok (Or.inl ka)
      have lka : (m.2.1 (ad 41)).2 = 9 := by rw [(s.1 41 (Or.inl ka)).2.1]; rfl
      refine jm_run hX [(45, [0, 1])] 30 ?_
      refine And.intro (fun g => absurd (show nI 9 ≤ nI j from g) (nI_ge (by omega) (by omega))) (fun _ => ?_)
      refine And.intro (by rw [← so]; exact s.ok (k := 3) (Or.inl ks)) ⟨some (ad 41), href, ?_⟩
      refine And.intro (show 6 + 2 * j + 1 ≤ 30 by omega) (And.intro (show 42 + 15 * j + 2 ≤ 222 by omega) (fun q hq => ?_))
      refine And.intro rfl ?_
      refine And.intro trivial (And.intro (Nat.le_of_ble_eq_true rfl) (And.intro (Nat.le_of_ble_eq_true rfl) ⟨1, 13, _, show 6 + 2 * j + 1 + 1 ≤ 30 by omega, show 42 + 15 * j + 2 + 13 ≤ 222 by omega, c_Wh_init (ok_new (k := 4) (n := 0)), fun v m1 hw => ?_⟩))
      obtain ⟨rfl, p, hp, em⟩ := hw
      have fm : IFr m m1 := by rw [em]; exact ((IFr.aN hq).tr (IFr.aN hp)).tr IFr.uR
      have hno : ∀ x, (100 + 2 * (119 + j) ≤ x ∧ x ≤ 101 + 2 * (119 + j)) → ¬ (cD38 x ∨ (338 ≤ x ∧ x < 100 + 2 * (119 + j))) := fun x hx w => by
        rcases w with w | w
        · simp only [cD38, cD37, cD36, cD35, cD34, cD33, cD32, cD31, cD30, cD29, cD28, cD27, cD26, cD25, cD24, cD23, cD22, cD21, cD20, cD19, cD18, cD17, cD16, cD15, cD14, cD13, cD12, cD11, cD10, cD9, cD8, cD7, cD6, cD5, cD4, cD3, cD2, cD1, cD0] at w; omega
        · omega
      obtain ⟨ad1, ex, eq, s1⟩ := ST.wh (119 + j) s hq hp (hno _ (by omega)) (hno _ (by omega))
      rw [← em] at s1
      have ea : ad1 41 = ad 41 := ex 41 (Or.inl ka)
      refine And.intro (fm.ok oka) (And.intro (vin_of (by rw [(fm (ad 41) oka.1).2.2]; exact lka) (show j < 9 by omega) (by decide)) (And.intro ?_ ?_))
      · rw [← eq]
        have := s1.ok (k := 100 + 2 * (119 + j)) (Or.inr (Or.inl rfl))
        rw [kd_o] at this
        exact this
      have s2 := s1.ref (k := 41) (f := j) (k' := 100 + 2 * (119 + j)) (Or.inl (Or.inl ka)) (Or.inr (Or.inl rfl)) (by unfold RF; simp only [show (41 : Nat) < 100 by decide, if_true]; simp; omega)
      rw [ea, eq] at s2
      have kk := ih (j + 1) _ ad1 (by omega) (s2.mo (fun k => by
        by_cases hd : cD38 k
        · simp only [hd, true_or]
        · simp only [hd, false_or]; omega) (fun k f w => by
        by_cases hd : cR38 k f
        · simp only [hd, true_or]
        · simp only [hd, false_or] at w ⊢; omega)) ((fr.tr fm).tr IFr.uR) (fun k hk => (ex k (Or.inl (Or.inl (Or.inl (Or.inl (Or.inl hk)))))).trans (ax k hk))
      rw [show 6 + 2 * (j + 1) = 6 + 2 * j + 1 + 1 by omega, show 42 + 15 * (j + 1) = 42 + 15 * j + 2 + 13 by omega, ← nI_1] at kk
      have ej : (nI j).toNatClampNeg = j := nI_c (by omega)
      have kk2 : X 45 [(0, .ref o), (1, .int (nI j + 1))] [] (uR m1 (ad 41) (nI j).toNatClampNeg (some q)) (6 + 2 * j + 1 + 1) (42 + 15 * j + 2 + 13) := by
        rw [ej]; exact kk
      exact kk2
  have b43 : ∀ (m : jm_M) (ad : Nat → Nat), ST m ad cD38 cR38 → IFr m0 m → (∀ k, cD34 k → ad k = ad0 k) → X 43 [(0, .ref o)] [] m 6 42 := by
    intro m ad s fr ax
    refine jm_run hX [(45, [0, 1])] 20 ?_
    exact loop45 9 0 _ ad (by omega) (ST.mo (dm := cD38) (rf := cR38) s (fun k => ⟨fun w => w.elim id (fun w => absurd w (by omega)), Or.inl⟩) (fun k f w => w.elim (fun w => w.elim id (fun w => absurd w (by omega))) (fun w => absurd w (by omega)))) fr ax
  have b32 : ∀ (m : jm_M) (ad : Nat → Nat), ST m ad cD37 cR37 → IFr m0 m → (∀ k, cD34 k → ad k = ad0 k) → X 32 [(0, .ref o)] [] m 4 27 := by
    intro m ad s fr ax
    have so : ad 3 = o := (ax 3 (by simp only [cD34, cD33, cD32, cD31, cD30, cD29, cD28, cD27, cD26, cD25, cD24, cD23, cD22, cD21, cD20, cD19, cD18, cD17, cD16, cD15, cD14, cD13, cD12, cD11, cD10, cD9, cD8, cD7, cD6, cD5, cD4, cD3, cD2, cD1, cD0]; first | decide | omega)).trans ho
    have ks : cD37 3 := (by simp only [cD37, cD36, cD35, cD34, cD33, cD32, cD31, cD30, cD29, cD28, cD27, cD26, cD25, cD24, cD23, cD22, cD21, cD20, cD19, cD18, cD17, cD16, cD15, cD14, cD13, cD12, cD11, cD10, cD9, cD8, cD7, cD6, cD5, cD4, cD3, cD2, cD1, cD0]; first | decide | omega)
    refine jm_run hX [(43, [0])] 20 ?_
    refine And.intro (Nat.le_of_ble_eq_true rfl) (And.intro (Nat.le_of_ble_eq_true rfl) (fun q hq => ?_))
    refine And.intro rfl ?_
    refine And.intro trivial (And.intro (Nat.le_of_ble_eq_true rfl) (And.intro (Nat.le_of_ble_eq_true rfl) ⟨1, 13, _, (Nat.le_of_ble_eq_true rfl), (Nat.le_of_ble_eq_true rfl), c_Wh_init (ok_new (k := 4) (n := 0)), fun v m1 hw => ?_⟩))
    obtain ⟨rfl, p, hp, em⟩ := hw
    obtain ⟨ad1, ex, eq, s1⟩ := ST.wh 131 s hq hp (by simp only [cD37, cD36, cD35, cD34, cD33, cD32, cD31, cD30, cD29, cD28, cD27, cD26, cD25, cD24, cD23, cD22, cD21, cD20, cD19, cD18, cD17, cD16, cD15, cD14, cD13, cD12, cD11, cD10, cD9, cD8, cD7, cD6, cD5, cD4, cD3, cD2, cD1, cD0]; first | decide | omega) (by simp only [cD37, cD36, cD35, cD34, cD33, cD32, cD31, cD30, cD29, cD28, cD27, cD26, cD25, cD24, cD23, cD22, cD21, cD20, cD19, cD18, cD17, cD16, cD15, cD14, cD13, cD12, cD11, cD10, cD9, cD8, cD7, cD6, cD5, cD4, cD3, cD2, cD1, cD0]; first | decide | omega)
    have fr1 : IFr m0 m1 := fr.tr (by rw [em]; exact ((IFr.aN hq).tr (IFr.aN hp)).tr IFr.uR)
    rw [← em] at s1
    have so1 : ad1 3 = o := (ex 3 ks).trans so
    refine And.intro (by rw [← so1]; exact s1.ok (Or.inl ks)) ?_
    have s2 := s1.ref (k := 3) (f := 6) (k' := 100 + 2 * 131) (Or.inl ks) (Or.inr (Or.inl rfl)) (by decide +kernel)
    rw [so1, eq] at s2
    exact b43 _ ad1 s2 (fr1.tr IFr.uR) (fun k hk => (ex k (Or.inl (Or.inl (Or.inl hk)))).trans (ax k hk))
  have b24 : ∀ (m : jm_M) (ad : Nat → Nat), ST m ad cD36 cR36 → IFr m0 m → (∀ k, cD34 k → ad k = ad0 k) → X 24 [(0, .ref o)] [] m 3 24 := by
    intro m ad s fr ax
    have so : ad 3 = o := (ax 3 (by simp only [cD34, cD33, cD32, cD31, cD30, cD29, cD28, cD27, cD26, cD25, cD24, cD23, cD22, cD21, cD20, cD19, cD18, cD17, cD16, cD15, cD14, cD13, cD12, cD11, cD10, cD9, cD8, cD7, cD6, cD5, cD4, cD3, cD2, cD1, cD0]; first | decide | omega)).trans ho
    have ks : cD36 3 := (by simp only [cD36, cD35, cD34, cD33, cD32, cD31, cD30, cD29, cD28, cD27, cD26, cD25, cD24, cD23, cD22, cD21, cD20, cD19, cD18, cD17, cD16, cD15, cD14, cD13, cD12, cD11, cD10, cD9, cD8, cD7, cD6, cD5, cD4, cD3, cD2, cD1, cD0]; first | decide | omega)
    refine jm_run hX [(32, [0])] 20 ?_
    refine And.intro (by decide) (And.intro (by decide) (And.intro (Nat.le_of_ble_eq_true rfl) (And.intro (Nat.le_of_ble_eq_true rfl) (fun q hq => ?_))))
    have nk : ¬ cD36 42 := (by simp only [cD36, cD35, cD34, cD33, cD32, cD31, cD30, cD29, cD28, cD27, cD26, cD25, cD24, cD23, cD22, cD21, cD20, cD19, cD18, cD17, cD16, cD15, cD14, cD13, cD12, cD11, cD10, cD9, cD8, cD7, cD6, cD5, cD4, cD3, cD2, cD1, cD0]; first | decide | omega)
    have s1 := s.new (q := q) (k := 42) (c := 53) (n := 3) hq nk rfl
    have so1 : va_up ad 42 q 3 = o := (va_up_ne _ _ (by decide)).trans so
    have eq : va_up ad 42 q 42 = q := va_up_self _ _ _
    refine And.intro (by rw [← so1]; exact s1.ok (k := 3) (Or.inl ks)) ?_
    have s2 := s1.ref (k := 3) (f := 5) (k' := 42) (Or.inl ks) (Or.inr rfl) (by decide +kernel)
    rw [so1, eq] at s2
    exact b32 _ _ s2 ((fr.tr (IFr.aN hq)).tr IFr.uR) (fun k hk => (va_up_ne _ _ (fun e => nk (by rw [← e]; exact (Or.inl (Or.inl hk))))).trans (ax k hk))
  have b15 : ∀ (m : jm_M) (ad : Nat → Nat), ST m ad cD35 cR35 → IFr m0 m → (∀ k, cD34 k → ad k = ad0 k) → X 15 [(0, .ref o)] [] m 2 15 := by
    intro m ad s fr ax
    have so : ad 3 = o := (ax 3 (by simp only [cD34, cD33, cD32, cD31, cD30, cD29, cD28, cD27, cD26, cD25, cD24, cD23, cD22, cD21, cD20, cD19, cD18, cD17, cD16, cD15, cD14, cD13, cD12, cD11, cD10, cD9, cD8, cD7, cD6, cD5, cD4, cD3, cD2, cD1, cD0]; first | decide | omega)).trans ho
    have ks : cD35 3 := (by simp only [cD35, cD34, cD33, cD32, cD31, cD30, cD29, cD28, cD27, cD26, cD25, cD24, cD23, cD22, cD21, cD20, cD19, cD18, cD17, cD16, cD15, cD14, cD13, cD12, cD11, cD10, cD9, cD8, cD7, cD6, cD5, cD4, cD3, cD2, cD1, cD0]; first | decide | omega)
    refine jm_run hX [(24, [0])] 20 ?_
    refine And.intro (by decide) (And.intro (by decide) (And.intro (Nat.le_of_ble_eq_true rfl) (And.intro (Nat.le_of_ble_eq_true rfl) (fun q hq => ?_))))
    have nk : ¬ cD35 41 := (by simp only [cD35, cD34, cD33, cD32, cD31, cD30, cD29, cD28, cD27, cD26, cD25, cD24, cD23, cD22, cD21, cD20, cD19, cD18, cD17, cD16, cD15, cD14, cD13, cD12, cD11, cD10, cD9, cD8, cD7, cD6, cD5, cD4, cD3, cD2, cD1, cD0]; first | decide | omega)
    have s1 := s.new (q := q) (k := 41) (c := 53) (n := 9) hq nk rfl
    have so1 : va_up ad 41 q 3 = o := (va_up_ne _ _ (by decide)).trans so
    have eq : va_up ad 41 q 41 = q := va_up_self _ _ _
    refine And.intro (by rw [← so1]; exact s1.ok (k := 3) (Or.inl ks)) ?_
    have s2 := s1.ref (k := 3) (f := 4) (k' := 41) (Or.inl ks) (Or.inr rfl) (by decide +kernel)
    rw [so1, eq] at s2
    exact b24 _ _ s2 ((fr.tr (IFr.aN hq)).tr IFr.uR) (fun k hk => (va_up_ne _ _ (fun e => nk (by rw [← e]; exact (Or.inl hk)))).trans (ax k hk))
  have b4 : ∀ (m : jm_M) (ad : Nat → Nat), ST m ad cD34 cR34 → IFr m0 m → (∀ k, cD34 k → ad k = ad0 k) → X 4 [(0, .ref o)] [] m 0 0 := by
    intro m ad s fr ax
    have so : ad 3 = o := (ax 3 (by simp only [cD34, cD33, cD32, cD31, cD30, cD29, cD28, cD27, cD26, cD25, cD24, cD23, cD22, cD21, cD20, cD19, cD18, cD17, cD16, cD15, cD14, cD13, cD12, cD11, cD10, cD9, cD8, cD7, cD6, cD5, cD4, cD3, cD2, cD1, cD0]; first | decide | omega)).trans ho
    have ks : cD34 3 := (by simp only [cD34, cD33, cD32, cD31, cD30, cD29, cD28, cD27, cD26, cD25, cD24, cD23, cD22, cD21, cD20, cD19, cD18, cD17, cD16, cD15, cD14, cD13, cD12, cD11, cD10, cD9, cD8, cD7, cD6, cD5, cD4, cD3, cD2, cD1, cD0]; first | decide | omega)
    refine jm_run hX [(15, [0])] 20 ?_
    refine And.intro (Nat.le_of_ble_eq_true rfl) (And.intro (Nat.le_of_ble_eq_true rfl) (fun q hq => ?_))
    refine And.intro rfl ?_
    refine And.intro trivial (And.intro (Nat.le_of_ble_eq_true rfl) (And.intro (Nat.le_of_ble_eq_true rfl) ⟨1, 13, _, (Nat.le_of_ble_eq_true rfl), (Nat.le_of_ble_eq_true rfl), c_Wh_init (ok_new (k := 4) (n := 0)), fun v m1 hw => ?_⟩))
    obtain ⟨rfl, p, hp, em⟩ := hw
    obtain ⟨ad1, ex, eq, s1⟩ := ST.wh 118 s hq hp (by simp only [cD34, cD33, cD32, cD31, cD30, cD29, cD28, cD27, cD26, cD25, cD24, cD23, cD22, cD21, cD20, cD19, cD18, cD17, cD16, cD15, cD14, cD13, cD12, cD11, cD10, cD9, cD8, cD7, cD6, cD5, cD4, cD3, cD2, cD1, cD0]; first | decide | omega) (by simp only [cD34, cD33, cD32, cD31, cD30, cD29, cD28, cD27, cD26, cD25, cD24, cD23, cD22, cD21, cD20, cD19, cD18, cD17, cD16, cD15, cD14, cD13, cD12, cD11, cD10, cD9, cD8, cD7, cD6, cD5, cD4, cD3, cD2, cD1, cD0]; first | decide | omega)
    have fr1 : IFr m0 m1 := fr.tr (by rw [em]; exact ((IFr.aN hq).tr (IFr.aN hp)).tr IFr.uR)
    rw [← em] at s1
    have so1 : ad1 3 = o := (ex 3 ks).trans so
    refine And.intro (by rw [← so1]; exact s1.ok (Or.inl ks)) ?_
    have s2 := s1.ref (k := 3) (f := 3) (k' := 100 + 2 * 118) (Or.inl ks) (Or.inr (Or.inl rfl)) (by decide +kernel)
    rw [so1, eq] at s2
    exact b15 _ ad1 s2 (fr1.tr IFr.uR) (fun k hk => (ex k hk).trans (ax k hk))
  refine jm_run hX [(4, [0])] 5 ?_
  refine And.intro (Nat.le_of_ble_eq_true rfl) ?_
  exact b4 m0 ad0 h0 IFr.rf (fun _ _ => rfl)
end CT3
