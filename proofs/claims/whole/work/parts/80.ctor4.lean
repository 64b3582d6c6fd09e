theorem ST.u {m : jm_M} {ad : Nat → Nat} {dm : Nat → Prop} {rf : Nat → Nat → Prop} {k : Nat} {g : Nat → Int32} (h : ST m ad dm rf) (hk : dm k) (h16 : k = 1 ∨ k = 6) : ST (uA m (ad k) g) ad dm rf := by
  refine ⟨fun i hi => ?_, h.2.1, h.2.2⟩
  obtain ⟨a1, a2, a3, a4⟩ := h.1 i hi
  refine ⟨a1, a2, fun w1 w2 => ?_, a4⟩
  show va_up m.2.2.1 (ad k) g (ad i) = _
  rw [va_up_ne _ _ (fun e => by have := h.2.1 i k hi hk e; omega)]
  exact a3 w1 w2
section CT4
variable {l : Launch} {D : va_G} {ca : Nat → ClassId}
theorem c_Ln_init {m0 : jm_M} {ad0 : Nat → Nat} {kd0 : Int32} (h0 : ST m0 ad0 cD1 cR1) (hz : m0.2.2.1 (ad0 1) = fun _ => 0) : jm_C l D ca n_Ln_init [.ref (ad0 1), .int kd0] m0 10 84 (fun v m' => v = none ∧ (∀ a, a ∈ m0.1 → a ∈ m'.1 ∧ m'.2.1 a = m0.2.1 a) ∧ ∃ ad', (∀ k, cD1 k → ad' k = ad0 k) ∧ ST m' ad' cD11 cR11 ∧ m'.2.2.1 (ad' 1) = va_up (fun _ => 0) 0 kd0 ∧ ∀ i, i < 9 → m'.2.2.1 (ad' 6) i = -1) := by
  refine jm_C_of (cd := cd_Ln_init) (ini := true) (by decide +kernel) ok_Ln_init (fun _ => rfl) (Nat.le_of_ble_eq_true rfl) ?_
  intro X hX
  generalize ho : ad0 1 = o
  have b80 : ∀ (m : jm_M) (ad : Nat → Nat), ST m ad cD11 cR11 → IFr m0 m → (∀ k, cD1 k → ad k = ad0 k) → X 80 [(0, .ref o), (1, .int kd0)] [] m 10 84 := by
    intro m ad s fr ax
    have so : ad 1 = o := (ax 1 (by simp only [cD1, cD0]; first | decide | omega)).trans ho
    have k1 : cD11 1 := (by simp only [cD11, cD10, cD9, cD8, cD7, cD6, cD5, cD4, cD3, cD2, cD1, cD0]; first | decide | omega)
    have k6 : cD11 6 := (by simp only [cD11, cD10, cD9, cD8, cD7, cD6, cD5, cD4, cD3, cD2, cD1, cD0]; first | decide | omega)
    have o1 : jm_ok m o 2 := by rw [← so]; exact s.ok k1
    have o6 : jm_ok m (ad 6) 50 := s.ok k6
    obtain ⟨-, k', hk', -, href⟩ := s.2.2 1 4 (Or.inl (Or.inl (Or.inl (Or.inl (Or.inl (Or.inl (Or.inl (Or.inl (Or.inr ⟨rfl, rfl⟩)))))))))
    have hk2 : RF 1 4 = some 6 := by decide +kernel
    rw [hk2] at hk'
    cases hk'
    rw [so] at href
    have l6 : (m.2.1 (ad 6)).2 = 9 := by rw [(s.1 6 k6).2.1]; rfl
    have s1 := s.u (g := va_up (m.2.2.1 o) 0 kd0) k1 (Or.inl rfl)
    rw [so] at s1
    have z1 : m.2.2.1 o = fun _ => 0 := by
      have := (fr (ad0 1) (h0.1 1 (by simp only [cD1, cD0]; first | decide | omega)).1).2.1
      rw [← ho, this, hz]
    have n16 : ad 6 ≠ o := fun e => absurd (s.2.1 6 1 k6 k1 (e.trans so.symm)) (by decide)
    refine jm_run hX [] 20 ?_
    refine And.intro o1 (And.intro o1 ⟨some (ad 6), href, ?_⟩)
    refine ⟨(Nat.le_of_ble_eq_true rfl), (Nat.le_of_ble_eq_true rfl), 0, 0, _, (Nat.le_of_ble_eq_true rfl), (Nat.le_of_ble_eq_true rfl), c_Ar_fill (x := -1) (m := uI m o 0 kd0) o6 (by show (m.2.1 (ad 6)).2 < _; rw [l6]; decide), fun v m' hq => ?_⟩
    obtain ⟨rfl, em⟩ := hq
    have s2 := s1.u (g := fun i => if i < ((uI m o 0 kd0).2.1 (ad 6)).2 then -1 else (uI m o 0 kd0).2.2.1 (ad 6) i) k6 (Or.inr rfl)
    refine ⟨(Nat.le_of_ble_eq_true rfl), (Nat.le_of_ble_eq_true rfl), trivial, rfl, fun a ha => ?_, ad, ax, by rw [em]; exact s2, ?_, fun i hi => ?_⟩
    · rw [em]; exact ⟨(fr a ha).1, (fr a ha).2.2⟩
    · rw [em, so]
      show va_up (va_up m.2.2.1 o (va_up (m.2.2.1 o) 0 kd0)) (ad 6) _ o = _
      rw [va_up_ne _ _ (fun e => n16 e.symm), va_up_self, z1]
    · rw [em]
      show va_up _ (ad 6) (fun i => if i < (m.2.1 (ad 6)).2 then -1 else _) (ad 6) i = -1
      rw [va_up_self, l6, if_pos hi]
  have b72 : ∀ (m : jm_M) (ad : Nat → Nat), ST m ad cD10 cR10 → IFr m0 m → (∀ k, cD1 k → ad k = ad0 k) → X 72 [(0, .ref o), (1, .int kd0)] [] m 9 75 := by
    intro m ad s fr ax
    have so : ad 1 = o := (ax 1 (by simp only [cD1, cD0]; first | decide | omega)).trans ho
    have ks : cD10 1 := (by simp only [cD10, cD9, cD8, cD7, cD6, cD5, cD4, cD3, cD2, cD1, cD0]; first | decide | omega)
    refine jm_run hX [(80, [0, 1])] 20 ?_
    refine And.intro (by decide) (And.intro (by decide) (And.intro (Nat.le_of_ble_eq_true rfl) (And.intro (Nat.le_of_ble_eq_true rfl) (fun q hq => ?_))))
    have nk : ¬ cD10 14 := (by simp only [cD10, cD9, cD8, cD7, cD6, cD5, cD4, cD3, cD2, cD1, cD0]; first | decide | omega)
    have s1 := s.new (q := q) (k := 14) (c := 52) (n := 9) hq nk rfl
    have so1 : va_up ad 14 q 1 = o := (va_up_ne _ _ (by decide)).trans so
    have eq : va_up ad 14 q 14 = q := va_up_self _ _ _
    refine And.intro (by rw [← so1]; exact s1.ok (k := 1) (Or.inl ks)) ?_
    have s2 := s1.ref (k := 1) (f := 12) (k' := 14) (Or.inl ks) (Or.inr rfl) (by decide +kernel)
    rw [so1, eq] at s2
    exact b80 _ _ s2 ((fr.tr (IFr.aN hq)).tr IFr.uR) (fun k hk => (va_up_ne _ _ (fun e => nk (by rw [← e]; exact (Or.inl (Or.inl (Or.inl (Or.inl (Or.inl (Or.inl (Or.inl (Or.inl (Or.inl hk)))))))))))).trans (ax k hk))
  have b65 : ∀ (m : jm_M) (ad : Nat → Nat), ST m ad cD9 cR9 → IFr m0 m → (∀ k, cD1 k → ad k = ad0 k) → X 65 [(0, .ref o), (1, .int kd0)] [] m 8 72 := by
    intro m ad s fr ax
    have so : ad 1 = o := (ax 1 (by simp only [cD1, cD0]; first | decide | omega)).trans ho
    have ks : cD9 1 := (by simp only [cD9, cD8, cD7, cD6, cD5, cD4, cD3, cD2, cD1, cD0]; first | decide | omega)
    refine jm_run hX [(72, [0, 1])] 20 ?_
    refine And.intro (by decide) (And.intro (by decide) (And.intro (Nat.le_of_ble_eq_true rfl) (And.intro (Nat.le_of_ble_eq_true rfl) (fun q hq => ?_))))
    have nk : ¬ cD9 13 := (by simp only [cD9, cD8, cD7, cD6, cD5, cD4, cD3, cD2, cD1, cD0]; first | decide | omega)
    have s1 := s.new (q := q) (k := 13) (c := 51) (n := 3) hq nk rfl
    have so1 : va_up ad 13 q 1 = o := (va_up_ne _ _ (by decide)).trans so
    have eq : va_up ad 13 q 13 = q := va_up_self _ _ _
    refine And.intro (by rw [← so1]; exact s1.ok (k := 1) (Or.inl ks)) ?_
    have s2 := s1.ref (k := 1) (f := 11) (k' := 13) (Or.inl ks) (Or.inr rfl) (by decide +kernel)
    rw [so1, eq] at s2
    exact b72 _ _ s2 ((fr.tr (IFr.aN hq)).tr IFr.uR) (fun k hk => (va_up_ne _ _ (fun e => nk (by rw [← e]; exact (Or.inl (Or.inl (Or.inl (Or.inl (Or.inl (Or.inl (Or.inl (Or.inl hk))))))))))).trans (ax k hk))
  have b58 : ∀ (m : jm_M) (ad : Nat → Nat), ST m ad cD8 cR8 → IFr m0 m → (∀ k, cD1 k → ad k = ad0 k) → X 58 [(0, .ref o), (1, .int kd0)] [] m 7 69 := by
    intro m ad s fr ax
    have so : ad 1 = o := (ax 1 (by simp only [cD1, cD0]; first | decide | omega)).trans ho
    have ks : cD8 1 := (by simp only [cD8, cD7, cD6, cD5, cD4, cD3, cD2, cD1, cD0]; first | decide | omega)
    refine jm_run hX [(65, [0, 1])] 20 ?_
    refine And.intro (by decide) (And.intro (by decide) (And.intro (Nat.le_of_ble_eq_true rfl) (And.intro (Nat.le_of_ble_eq_true rfl) (fun q hq => ?_))))
    have nk : ¬ cD8 12 := (by simp only [cD8, cD7, cD6, cD5, cD4, cD3, cD2, cD1, cD0]; first | decide | omega)
    have s1 := s.new (q := q) (k := 12) (c := 51) (n := 3) hq nk rfl
    have so1 : va_up ad 12 q 1 = o := (va_up_ne _ _ (by decide)).trans so
    have eq : va_up ad 12 q 12 = q := va_up_self _ _ _
    refine And.intro (by rw [← so1]; exact s1.ok (k := 1) (Or.inl ks)) ?_
    have s2 := s1.ref (k := 1) (f := 10) (k' := 12) (Or.inl ks) (Or.inr rfl) (by decide +kernel)
    rw [so1, eq] at s2
    exact b65 _ _ s2 ((fr.tr (IFr.aN hq)).tr IFr.uR) (fun k hk => (va_up_ne _ _ (fun e => nk (by rw [← e]; exact (Or.inl (Or.inl (Or.inl (Or.inl (Or.inl (Or.inl (Or.inl hk)))))))))).trans (ax k hk))
  have b51 : ∀ (m : jm_M) (ad : Nat → Nat), ST m ad cD7 cR7 → IFr m0 m → (∀ k, cD1 k → ad k = ad0 k) → X 51 [(0, .ref o), (1, .int kd0)] [] m 6 66 := by
    intro m ad s fr ax
    have so : ad 1 = o := (ax 1 (by simp only [cD1, cD0]; first | decide | omega)).trans ho
    have ks : cD7 1 := (by simp only [cD7, cD6, cD5, cD4, cD3, cD2, cD1, cD0]; first | decide | omega)
    refine jm_run hX [(58, [0, 1])] 20 ?_
    refine And.intro (by decide) (And.intro (by decide) (And.intro (Nat.le_of_ble_eq_true rfl) (And.intro (Nat.le_of_ble_eq_true rfl) (fun q hq => ?_))))
    have nk : ¬ cD7 11 := (by simp only [cD7, cD6, cD5, cD4, cD3, cD2, cD1, cD0]; first | decide | omega)
    have s1 := s.new (q := q) (k := 11) (c := 52) (n := 3) hq nk rfl
    have so1 : va_up ad 11 q 1 = o := (va_up_ne _ _ (by decide)).trans so
    have eq : va_up ad 11 q 11 = q := va_up_self _ _ _
    refine And.intro (by rw [← so1]; exact s1.ok (k := 1) (Or.inl ks)) ?_
    have s2 := s1.ref (k := 1) (f := 9) (k' := 11) (Or.inl ks) (Or.inr rfl) (by decide +kernel)
    rw [so1, eq] at s2
    exact b58 _ _ s2 ((fr.tr (IFr.aN hq)).tr IFr.uR) (fun k hk => (va_up_ne _ _ (fun e => nk (by rw [← e]; exact (Or.inl (Or.inl (Or.inl (Or.inl (Or.inl (Or.inl hk))))))))).trans (ax k hk))
  have b43 : ∀ (m : jm_M) (ad : Nat → Nat), ST m ad cD6 cR6 → IFr m0 m → (∀ k, cD1 k → ad k = ad0 k) → X 43 [(0, .ref o), (1, .int kd0)] [] m 5 57 := by
    intro m ad s fr ax
    have so : ad 1 = o := (ax 1 (by simp only [cD1, cD0]; first | decide | omega)).trans ho
    have ks : cD6 1 := (by simp only [cD6, cD5, cD4, cD3, cD2, cD1, cD0]; first | decide | omega)
    refine jm_run hX [(51, [0, 1])] 20 ?_
    refine And.intro (by decide) (And.intro (by decide) (And.intro (Nat.le_of_ble_eq_true rfl) (And.intro (Nat.le_of_ble_eq_true rfl) (fun q hq => ?_))))
    have nk : ¬ cD6 10 := (by simp only [cD6, cD5, cD4, cD3, cD2, cD1, cD0]; first | decide | omega)
    have s1 := s.new (q := q) (k := 10) (c := 51) (n := 9) hq nk rfl
    have so1 : va_up ad 10 q 1 = o := (va_up_ne _ _ (by decide)).trans so
    have eq : va_up ad 10 q 10 = q := va_up_self _ _ _
    refine And.intro (by rw [← so1]; exact s1.ok (k := 1) (Or.inl ks)) ?_
    have s2 := s1.ref (k := 1) (f := 8) (k' := 10) (Or.inl ks) (Or.inr rfl) (by decide +kernel)
    rw [so1, eq] at s2
    exact b51 _ _ s2 ((fr.tr (IFr.aN hq)).tr IFr.uR) (fun k hk => (va_up_ne _ _ (fun e => nk (by rw [← e]; exact (Or.inl (Or.inl (Or.inl (Or.inl (Or.inl hk)))))))).trans (ax k hk))
  have b35 : ∀ (m : jm_M) (ad : Nat → Nat), ST m ad cD5 cR5 → IFr m0 m → (∀ k, cD1 k → ad k = ad0 k) → X 35 [(0, .ref o), (1, .int kd0)] [] m 4 48 := by
    intro m ad s fr ax
    have so : ad 1 = o := (ax 1 (by simp only [cD1, cD0]; first | decide | omega)).trans ho
    have ks : cD5 1 := (by simp only [cD5, cD4, cD3, cD2, cD1, cD0]; first | decide | omega)
    refine jm_run hX [(43, [0, 1])] 20 ?_
    refine And.intro (by decide) (And.intro (by decide) (And.intro (Nat.le_of_ble_eq_true rfl) (And.intro (Nat.le_of_ble_eq_true rfl) (fun q hq => ?_))))
    have nk : ¬ cD5 9 := (by simp only [cD5, cD4, cD3, cD2, cD1, cD0]; first | decide | omega)
    have s1 := s.new (q := q) (k := 9) (c := 50) (n := 9) hq nk rfl
    have so1 : va_up ad 9 q 1 = o := (va_up_ne _ _ (by decide)).trans so
    have eq : va_up ad 9 q 9 = q := va_up_self _ _ _
    refine And.intro (by rw [← so1]; exact s1.ok (k := 1) (Or.inl ks)) ?_
    have s2 := s1.ref (k := 1) (f := 7) (k' := 9) (Or.inl ks) (Or.inr rfl) (by decide +kernel)
    rw [so1, eq] at s2
    exact b43 _ _ s2 ((fr.tr (IFr.aN hq)).tr IFr.uR) (fun k hk => (va_up_ne _ _ (fun e => nk (by rw [← e]; exact (Or.inl (Or.inl (Or.inl (Or.inl hk))))))).trans (ax k hk))
  have b27 : ∀ (m : jm_M) (ad : Nat → Nat), ST m ad cD4 cR4 → IFr m0 m → (∀ k, cD1 k → ad k = ad0 k) → X 27 [(0, .ref o), (1, .int kd0)] [] m 3 39 := by
    intro m ad s fr ax
    have so : ad 1 = o := (ax 1 (by simp only [cD1, cD0]; first | decide | omega)).trans ho
    have ks : cD4 1 := (by simp only [cD4, cD3, cD2, cD1, cD0]; first | decide | omega)
    refine jm_run hX [(35, [0, 1])] 20 ?_
    refine And.intro (by decide) (And.intro (by decide) (And.intro (Nat.le_of_ble_eq_true rfl) (And.intro (Nat.le_of_ble_eq_true rfl) (fun q hq => ?_))))
    have nk : ¬ cD4 8 := (by simp only [cD4, cD3, cD2, cD1, cD0]; first | decide | omega)
    have s1 := s.new (q := q) (k := 8) (c := 50) (n := 9) hq nk rfl
    have so1 : va_up ad 8 q 1 = o := (va_up_ne _ _ (by decide)).trans so
    have eq : va_up ad 8 q 8 = q := va_up_self _ _ _
    refine And.intro (by rw [← so1]; exact s1.ok (k := 1) (Or.inl ks)) ?_
    have s2 := s1.ref (k := 1) (f := 6) (k' := 8) (Or.inl ks) (Or.inr rfl) (by decide +kernel)
    rw [so1, eq] at s2
    exact b35 _ _ s2 ((fr.tr (IFr.aN hq)).tr IFr.uR) (fun k hk => (va_up_ne _ _ (fun e => nk (by rw [← e]; exact (Or.inl (Or.inl (Or.inl hk)))))).trans (ax k hk))
  have b19 : ∀ (m : jm_M) (ad : Nat → Nat), ST m ad cD3 cR3 → IFr m0 m → (∀ k, cD1 k → ad k = ad0 k) → X 19 [(0, .ref o), (1, .int kd0)] [] m 2 12 := by
    intro m ad s fr ax
    have so : ad 1 = o := (ax 1 (by simp only [cD1, cD0]; first | decide | omega)).trans ho
    have ks : cD3 1 := (by simp only [cD3, cD2, cD1, cD0]; first | decide | omega)
    refine jm_run hX [(27, [0, 1])] 20 ?_
    refine And.intro (by decide) (And.intro (by decide) (And.intro (Nat.le_of_ble_eq_true rfl) (And.intro (Nat.le_of_ble_eq_true rfl) (fun q hq => ?_))))
    have nk : ¬ cD3 7 := (by simp only [cD3, cD2, cD1, cD0]; first | decide | omega)
    have s1 := s.new (q := q) (k := 7) (c := 50) (n := 27) hq nk rfl
    have so1 : va_up ad 7 q 1 = o := (va_up_ne _ _ (by decide)).trans so
    have eq : va_up ad 7 q 7 = q := va_up_self _ _ _
    refine And.intro (by rw [← so1]; exact s1.ok (k := 1) (Or.inl ks)) ?_
    have s2 := s1.ref (k := 1) (f := 5) (k' := 7) (Or.inl ks) (Or.inr rfl) (by decide +kernel)
    rw [so1, eq] at s2
    exact b27 _ _ s2 ((fr.tr (IFr.aN hq)).tr IFr.uR) (fun k hk => (va_up_ne _ _ (fun e => nk (by rw [← e]; exact (Or.inl (Or.inl hk))))).trans (ax k hk))
  have b11 : ∀ (m : jm_M) (ad : Nat → Nat), ST m ad cD2 cR2 → IFr m0 m → (∀ k, cD1 k → ad k = ad0 k) → X 11 [(0, .ref o), (1, .int kd0)] [] m 1 3 := by
    intro m ad s fr ax
    have so : ad 1 = o := (ax 1 (by simp only [cD1, cD0]; first | decide | omega)).trans ho
    have ks : cD2 1 := (by simp only [cD2, cD1, cD0]; first | decide | omega)
    refine jm_run hX [(19, [0, 1])] 20 ?_
    refine And.intro (by decide) (And.intro (by decide) (And.intro (Nat.le_of_ble_eq_true rfl) (And.intro (Nat.le_of_ble_eq_true rfl) (fun q hq => ?_))))
    have nk : ¬ cD2 6 := (by simp only [cD2, cD1, cD0]; first | decide | omega)
    have s1 := s.new (q := q) (k := 6) (c := 50) (n := 9) hq nk rfl
    have so1 : va_up ad 6 q 1 = o := (va_up_ne _ _ (by decide)).trans so
    have eq : va_up ad 6 q 6 = q := va_up_self _ _ _
    refine And.intro (by rw [← so1]; exact s1.ok (k := 1) (Or.inl ks)) ?_
    have s2 := s1.ref (k := 1) (f := 4) (k' := 6) (Or.inl ks) (Or.inr rfl) (by decide +kernel)
    rw [so1, eq] at s2
    exact b19 _ _ s2 ((fr.tr (IFr.aN hq)).tr IFr.uR) (fun k hk => (va_up_ne _ _ (fun e => nk (by rw [← e]; exact (Or.inl hk)))).trans (ax k hk))
  have b4 : ∀ (m : jm_M) (ad : Nat → Nat), ST m ad cD1 cR1 → IFr m0 m → (∀ k, cD1 k → ad k = ad0 k) → X 4 [(0, .ref o), (1, .int kd0)] [] m 0 0 := by
    intro m ad s fr ax
    have so : ad 1 = o := (ax 1 (by simp only [cD1, cD0]; first | decide | omega)).trans ho
    have ks : cD1 1 := (by simp only [cD1, cD0]; first | decide | omega)
    refine jm_run hX [(11, [0, 1])] 20 ?_
    refine And.intro (by decide) (And.intro (by decide) (And.intro (Nat.le_of_ble_eq_true rfl) (And.intro (Nat.le_of_ble_eq_true rfl) (fun q hq => ?_))))
    have nk : ¬ cD1 5 := (by simp only [cD1, cD0]; first | decide | omega)
    have s1 := s.new (q := q) (k := 5) (c := 50) (n := 3) hq nk rfl
    have so1 : va_up ad 5 q 1 = o := (va_up_ne _ _ (by decide)).trans so
    have eq : va_up ad 5 q 5 = q := va_up_self _ _ _
    refine And.intro (by rw [← so1]; exact s1.ok (k := 1) (Or.inl ks)) ?_
    have s2 := s1.ref (k := 1) (f := 3) (k' := 5) (Or.inl ks) (Or.inr rfl) (by decide +kernel)
    rw [so1, eq] at s2
    exact b11 _ _ s2 ((fr.tr (IFr.aN hq)).tr IFr.uR) (fun k hk => (va_up_ne _ _ (fun e => nk (by rw [← e]; exact hk))).trans (ax k hk))
  refine jm_run hX [(4, [0, 1])] 5 ?_
  refine And.intro (Nat.le_of_ble_eq_true rfl) ?_
  exact b4 m0 ad0 h0 IFr.rf (fun _ _ => rfl)
/-- the class's things as they are made -/
def newK (x : Int32) : Nat := if 1 ≤ x.toInt ∧ x.toInt ≤ 3 then x.toInt.toNat else 1
theorem c_Sh_init {m0 : jm_M} {o : Nat} (h0 : m0.1 = [o]) (ok : m0.2.1 o = (5, 0)) (hz : m0.2.2.1 o = (fun _ => 0) ∧ m0.2.2.2.1 o = fun _ => 0) (x : Int32) : jm_C l D ca n_Sh_init [.ref o, .int x] m0 306 2441 (fun v m' => v = none ∧ ∃ ad, ad 0 = o ∧ ST m' ad cD41 cR41 ∧ m'.2.2.1 (ad 1) = va_up (fun _ => 0) 0 (nI (newK x)) ∧ ∀ i, i < 9 → m'.2.2.1 (ad 6) i = -1) := by
  refine jm_C_of (cd := cd_Sh_init) (ini := true) (by decide +kernel) ok_Sh_init (fun _ => rfl) (Nat.le_of_ble_eq_true rfl) ?_
  intro X hX
  have s0 : ST m0 (fun _ => o) cD0 cR0 := by
    refine ⟨fun k hk => ?_, fun i j hi hj _ => ?_, fun k f hr => by cases hr⟩
    · have hk : k = 0 := hk
      subst hk
      exact ⟨by rw [h0]; exact List.mem_singleton.mpr rfl, ok, fun _ _ => hz.1, hz.2⟩
    · have hi : i = 0 := hi
      have hj : j = 0 := hj
      rw [hi, hj]
  have b45 : ∀ (m : jm_M) (ad : Nat → Nat), ad 0 = o → ST m ad cD33 cR33 → m.2.2.1 (ad 1) = va_up (fun _ => 0) 0 (nI (newK x)) → (∀ i, i < 9 → m.2.2.1 (ad 6) i = -1) → X 45 [(0, .ref o)] [] m 275 2212 := by
    intro m ad so s i1 i6
    have ks : cD33 0 := (by simp only [cD33, cD32, cD31, cD30, cD29, cD28, cD27, cD26, cD25, cD24, cD23, cD22, cD21, cD20, cD19, cD18, cD17, cD16, cD15, cD14, cD13, cD12, cD11, cD10, cD9, cD8, cD7, cD6, cD5, cD4, cD3, cD2, cD1, cD0]; first | decide | omega)
    have k1 : cD33 1 := (by simp only [cD33, cD32, cD31, cD30, cD29, cD28, cD27, cD26, cD25, cD24, cD23, cD22, cD21, cD20, cD19, cD18, cD17, cD16, cD15, cD14, cD13, cD12, cD11, cD10, cD9, cD8, cD7, cD6, cD5, cD4, cD3, cD2, cD1, cD0]; first | decide | omega)
    have k6 : cD33 6 := (by simp only [cD33, cD32, cD31, cD30, cD29, cD28, cD27, cD26, cD25, cD24, cD23, cD22, cD21, cD20, cD19, cD18, cD17, cD16, cD15, cD14, cD13, cD12, cD11, cD10, cD9, cD8, cD7, cD6, cD5, cD4, cD3, cD2, cD1, cD0]; first | decide | omega)
    refine jm_run hX [] 20 ?_
    refine And.intro (Nat.le_of_ble_eq_true rfl) (And.intro (Nat.le_of_ble_eq_true rfl) (fun q hq => ?_))
    refine And.intro rfl ?_
    have nk : ¬ cD33 3 := (by simp only [cD33, cD32, cD31, cD30, cD29, cD28, cD27, cD26, cD25, cD24, cD23, cD22, cD21, cD20, cD19, cD18, cD17, cD16, cD15, cD14, cD13, cD12, cD11, cD10, cD9, cD8, cD7, cD6, cD5, cD4, cD3, cD2, cD1, cD0]; first | decide | omega)
    have s1 : ST (aN m q 3 0) (va_up ad 3 q) cD34 cR34 := s.new (q := q) (k := 3) (c := 3) (n := 0) hq nk rfl
    have eq0 : va_up ad 3 q 3 = q := va_up_self _ _ _
    have kc := c_So_init (l := l) (D := D) (ca := ca) s1
    rw [eq0] at kc
    refine And.intro trivial (And.intro (Nat.le_of_ble_eq_true rfl) (And.intro (Nat.le_of_ble_eq_true rfl) ⟨30, 222, _, (Nat.le_of_ble_eq_true rfl), (Nat.le_of_ble_eq_true rfl), kc, fun v m1 hw => ?_⟩))
    obtain ⟨rfl, fi, ad1, ex, s2⟩ := hw
    have e3 : ad1 3 = q := (ex 3 (Or.inr rfl)).trans eq0
    have eo : ∀ k, cD33 k → ad1 k = ad k := fun k hk => (ex k (Or.inl hk)).trans (va_up_ne _ _ (fun e => nk (by rw [← e]; exact hk)))
    have so1 : ad1 0 = o := (eo 0 ks).trans so
    refine And.intro (by rw [← so1]; exact s2.ok (k := 0) (Or.inl (Or.inl (Or.inl (Or.inl (Or.inl (Or.inl (Or.inl ks)))))))) ?_
    have s3 := s2.ref (k := 0) (f := 2) (k' := 3) (Or.inl (Or.inl (Or.inl (Or.inl (Or.inl (Or.inl (Or.inl ks))))))) (by simp only [cD40, cD39, cD38, cD37, cD36, cD35, cD34, cD33, cD32, cD31, cD30, cD29, cD28, cD27, cD26, cD25, cD24, cD23, cD22, cD21, cD20, cD19, cD18, cD17, cD16, cD15, cD14, cD13, cD12, cD11, cD10, cD9, cD8, cD7, cD6, cD5, cD4, cD3, cD2, cD1, cD0]; first | decide | omega) (by decide +kernel)
    rw [so1, e3] at s3
    have fr := (IFr.aN (k := 3) (n := 0) hq).tr fi
    refine ⟨(Nat.le_of_ble_eq_true rfl), (Nat.le_of_ble_eq_true rfl), trivial, rfl, ad1, so1, s3, ?_, fun i hi => ?_⟩
    · show m1.2.2.1 (ad1 1) = _
      rw [eo 1 k1, (fr (ad 1) (s.1 1 k1).1).2.1]; exact i1
    · show m1.2.2.1 (ad1 6) i = _
      rw [eo 6 k6, (fr (ad 6) (s.1 6 k6).1).2.1]; exact i6 i hi
  have b30 : ∀ (m : jm_M) (ad : Nat → Nat), ad 0 = o → ST m ad cD12 cR12 → m.2.2.1 (ad 1) = va_up (fun _ => 0) 0 (nI (newK x)) → (∀ i, i < 9 → m.2.2.1 (ad 6) i = -1) → X 30 [(0, .ref o)] [] m 11 97 := by
    intro m ad so s i1 i6
    have ks : cD12 0 := (by simp only [cD12, cD11, cD10, cD9, cD8, cD7, cD6, cD5, cD4, cD3, cD2, cD1, cD0]; first | decide | omega)
    have k1 : cD12 1 := (by simp only [cD12, cD11, cD10, cD9, cD8, cD7, cD6, cD5, cD4, cD3, cD2, cD1, cD0]; first | decide | omega)
    have k6 : cD12 6 := (by simp only [cD12, cD11, cD10, cD9, cD8, cD7, cD6, cD5, cD4, cD3, cD2, cD1, cD0]; first | decide | omega)
    obtain ⟨-, k', hk', -, href⟩ := s.2.2 0 0 (Or.inr ⟨rfl, rfl⟩)
    have hk2 : RF 0 0 = some 1 := by decide +kernel
    rw [hk2] at hk'
    cases hk'
    rw [so] at href
    refine jm_run hX [(45, [0])] 20 ?_
    refine And.intro (Nat.le_of_ble_eq_true rfl) (And.intro (Nat.le_of_ble_eq_true rfl) (fun q hq => ?_))
    refine And.intro rfl ?_
    have nk : ¬ cD12 2 := (by simp only [cD12, cD11, cD10, cD9, cD8, cD7, cD6, cD5, cD4, cD3, cD2, cD1, cD0]; first | decide | omega)
    have s1 : ST (aN m q 1 0) (va_up ad 2 q) cD13 cR13 := s.new (q := q) (k := 2) (c := 1) (n := 0) hq nk rfl
    have eq0 : va_up ad 2 q 2 = q := va_up_self _ _ _
    have eq1 : va_up ad 2 q 1 = ad 1 := va_up_ne _ _ (by decide)
    have so0 : va_up ad 2 q 0 = o := (va_up_ne _ _ (by decide)).trans so
    have oq : o ≠ q := fun e => hq (e ▸ (so ▸ (s.1 0 ks).1))
    refine And.intro (by rw [← so0]; exact s1.ok (k := 0) (Or.inl ks)) ⟨some (ad 1), by show va_up m.2.2.2.2 q _ o 0 = _; rw [va_up_ne _ _ oq]; exact href, ?_⟩
    have kc := c_Fl_init (l := l) (D := D) (ca := ca) s1
    rw [eq0, eq1] at kc
    refine And.intro trivial (And.intro (Nat.le_of_ble_eq_true rfl) (And.intro (Nat.le_of_ble_eq_true rfl) ⟨263, 2101, _, (Nat.le_of_ble_eq_true rfl), (Nat.le_of_ble_eq_true rfl), kc, fun v m1 hw => ?_⟩))
    obtain ⟨rfl, fi, ad1, ex, s2⟩ := hw
    have e3 : ad1 2 = q := (ex 2 (Or.inr rfl)).trans eq0
    have eo : ∀ k, cD12 k → ad1 k = ad k := fun k hk => (ex k (Or.inl hk)).trans (va_up_ne _ _ (fun e => nk (by rw [← e]; exact hk)))
    have so1 : ad1 0 = o := (eo 0 ks).trans so
    refine And.intro (by rw [← so1]; exact s2.ok (k := 0) (Or.inl (Or.inl (Or.inl (Or.inl (Or.inl (Or.inl (Or.inl (Or.inl (Or.inl (Or.inl (Or.inl (Or.inl (Or.inl (Or.inl (Or.inl (Or.inl (Or.inl (Or.inl ks))))))))))))))))))) ?_
    have s3 := s2.ref (k := 0) (f := 1) (k' := 2) (Or.inl (Or.inl (Or.inl (Or.inl (Or.inl (Or.inl (Or.inl (Or.inl (Or.inl (Or.inl (Or.inl (Or.inl (Or.inl (Or.inl (Or.inl (Or.inl (Or.inl (Or.inl ks)))))))))))))))))) (by simp only [cD32, cD31, cD30, cD29, cD28, cD27, cD26, cD25, cD24, cD23, cD22, cD21, cD20, cD19, cD18, cD17, cD16, cD15, cD14, cD13, cD12, cD11, cD10, cD9, cD8, cD7, cD6, cD5, cD4, cD3, cD2, cD1, cD0]; first | decide | omega) (by decide +kernel)
    rw [so1, e3] at s3
    have fr := (IFr.aN (k := 1) (n := 0) hq).tr fi
    refine b45 _ ad1 so1 s3 ?_ (fun i hi => ?_)
    · show m1.2.2.1 (ad1 1) = _
      rw [eo 1 k1, (fr (ad 1) (s.1 1 k1).1).2.1]; exact i1
    · show m1.2.2.1 (ad1 6) i = _
      rw [eo 6 k6, (fr (ad 6) (s.1 6 k6).1).2.1]; exact i6 i hi
  have b24 : ∀ (q : Nat), q ∉ m0.1 → X 24 [(0, .ref o)] [.int (nI (newK x)), .ref q, .ref q, .ref o] (aN m0 q 2 0) 1 13 := by
    intro q hq
    have s1 : ST (aN m0 q 2 0) (va_up (fun _ => o) 1 q) cD1 cR1 := s0.new (q := q) (k := 1) (c := 2) (n := 0) hq (by simp only [cD0]; first | decide | omega) rfl
    have eq0 : va_up (fun _ => o) 1 q 1 = q := va_up_self _ _ _
    have kc := c_Ln_init (l := l) (D := D) (ca := ca) (kd0 := nI (newK x)) s1 (by rw [eq0]; exact va_up_self _ _ _)
    rw [eq0] at kc
    refine jm_run hX [(30, [0])] 20 ?_
    refine And.intro trivial (And.intro (Nat.le_of_ble_eq_true rfl) (And.intro (Nat.le_of_ble_eq_true rfl) ⟨10, 84, _, (Nat.le_of_ble_eq_true rfl), (Nat.le_of_ble_eq_true rfl), kc, fun v m1 hw => ?_⟩))
    obtain ⟨rfl, fi, ad1, ex, s2, i1, i6⟩ := hw
    have so1 : ad1 0 = o := ex 0 (by simp only [cD1, cD0]; first | decide | omega)
    have e1 : ad1 1 = q := (ex 1 (by simp only [cD1, cD0]; first | decide | omega)).trans eq0
    have ks : cD11 0 := (by simp only [cD11, cD10, cD9, cD8, cD7, cD6, cD5, cD4, cD3, cD2, cD1, cD0]; first | decide | omega)
    refine And.intro (by rw [← so1]; exact s2.ok ks) ?_
    have s3 := s2.ref (k := 0) (f := 0) (k' := 1) ks (by simp only [cD11, cD10, cD9, cD8, cD7, cD6, cD5, cD4, cD3, cD2, cD1, cD0]; first | decide | omega) (by decide +kernel)
    rw [so1, e1] at s3
    exact b30 _ ad1 so1 s3 i1 i6
  have e3 : (3 : Int32).toInt = 3 := by decide
  have e1 : (1 : Int32).toInt = 1 := by decide
  refine jm_run hX [(24, [0])] 30 ?_
  refine And.intro (Nat.le_of_ble_eq_true rfl) ?_
  refine And.intro (Nat.le_of_ble_eq_true rfl) (And.intro (Nat.le_of_ble_eq_true rfl) (fun q hq => ?_))
  refine And.intro rfl ?_
  have kk := b24 q hq
  refine And.intro (fun g => ?_) (fun g => ?_)
  · have g : x < 1 := g
    rw [Int32.lt_iff_toInt_lt, e1] at g
    have : newK x = 1 := if_neg (by omega)
    rw [this] at kk
    exact kk
  · have g : ¬ x < 1 := g
    rw [Int32.lt_iff_toInt_lt, e1] at g
    refine And.intro (fun g2 => ?_) (fun g2 => ?_)
    · have g2 : (3 : Int32) < x := g2
      rw [Int32.lt_iff_toInt_lt, e3] at g2
      have : newK x = 1 := if_neg (by omega)
      rw [this] at kk
      exact kk
    · have g2 : ¬ (3 : Int32) < x := g2
      rw [Int32.lt_iff_toInt_lt, e3] at g2
      have : newK x = x.toInt.toNat := if_pos (by omega)
      rw [this, ← i_of (by omega)] at kk
      exact kk
end CT4
