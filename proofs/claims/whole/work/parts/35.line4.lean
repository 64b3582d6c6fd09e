/-- only the things with these numbers have changed -/
def FRs (ad : Nat → Nat) (p : Nat → Prop) (m m' : jm_M) : Prop := m'.1 = m.1 ∧ m'.2.1 = m.2.1 ∧ m'.2.2.2.2 = m.2.2.2.2 ∧ ∀ b, (∀ k, kin k → p k → b ≠ ad k) → m'.2.2.1 b = m.2.2.1 b ∧ m'.2.2.2.1 b = m.2.2.2.1 b
theorem FRs.rf {ad : Nat → Nat} {p : Nat → Prop} {m : jm_M} : FRs ad p m m := ⟨rfl, rfl, rfl, fun _ _ => ⟨rfl, rfl⟩⟩
theorem FRs.tr {ad : Nat → Nat} {p : Nat → Prop} {m1 m2 m3 : jm_M} (h : FRs ad p m1 m2) (g : FRs ad p m2 m3) : FRs ad p m1 m3 :=
  ⟨g.1.trans h.1, g.2.1.trans h.2.1, g.2.2.1.trans h.2.2.1, fun b hb => ⟨(g.2.2.2 b hb).1.trans (h.2.2.2 b hb).1, (g.2.2.2 b hb).2.trans (h.2.2.2 b hb).2⟩⟩
theorem FRs.mo {ad : Nat → Nat} {p q : Nat → Prop} {m m' : jm_M} (hpq : ∀ k, p k → q k) (h : FRs ad p m m') : FRs ad q m m' :=
  ⟨h.1, h.2.1, h.2.2.1, fun b hb => h.2.2.2 b (fun k hk hp => hb k hk (hpq k hp))⟩
theorem FRs.S {ad : Nat → Nat} {p : Nat → Prop} {m m' : jm_M} (h : FRs ad p m m') (S : SST m ad) : SST m' ad := by
  obtain ⟨h1, h2, h3, h5⟩ := h
  unfold SST at S ⊢
  rw [h1, h2, h3]
  exact S
theorem FRs.uA {ad : Nat → Nat} {p : Nat → Prop} {m : jm_M} {i : Nat} {g : Nat → Int32} (hi : kin i) (hp : p i) : FRs ad p m (uA m (ad i) g) :=
  ⟨rfl, rfl, rfl, fun b hb => ⟨va_up_ne _ _ (hb i hi hp), rfl⟩⟩
theorem FRs.uI {ad : Nat → Nat} {p : Nat → Prop} {m : jm_M} {i k : Nat} {x : Int32} (hi : kin i) (hp : p i) : FRs ad p m (uI m (ad i) k x) := FRs.uA hi hp
theorem FRs.uJ {ad : Nat → Nat} {p : Nat → Prop} {m : jm_M} {i k : Nat} {x : Int64} (hi : kin i) (hp : p i) : FRs ad p m (uJ m (ad i) k x) :=
  ⟨rfl, rfl, rfl, fun b hb => ⟨rfl, va_up_ne _ _ (hb i hi hp)⟩⟩
theorem FRs.W {ad : Nat → Nat} {p : Nat → Prop} {m m' : jm_M} (hp : ∀ k, 100 ≤ k → k < 364 → p k) (h : FRW ad m m') : FRs ad p m m' :=
  ⟨h.1, h.2.1, h.2.2.1, fun b hb => ⟨h.2.2.2.2 b (fun k h1 h2 => hb k (Or.inr ⟨h1, h2⟩) (hp k h1 h2)), by rw [h.2.2.2.1]⟩⟩
theorem FRs.at {ad : Nat → Nat} {p : Nat → Prop} {m m' : jm_M} (h : FRs ad p m m') (S : SST m ad) {k : Nat} (hk : kin k) (hp : ¬ p k) : m'.2.2.1 (ad k) = m.2.2.1 (ad k) ∧ m'.2.2.2.1 (ad k) = m.2.2.2.1 (ad k) :=
  h.2.2.2 (ad k) (fun i hi hpi e => by
    have := S.2.1 k i hk hi e
    subst this
    exact hp hpi)
theorem FRs.L {ad : Nat → Nat} {p : Nat → Prop} {m m' : jm_M} {d : LD} (h : FRs ad p m m') (S : SST m ad) (hp : ∀ k, k < 15 → p k → k = 0 ∨ k = 2 ∨ k = 3 ∨ k = 4 ∨ 10 < k) (L : LnV m ad d) : LnV m' ad d := by
  obtain ⟨h1, h2, h3, h4, h5, h6, h7, h8, h9⟩ := L
  have hn : ∀ k, k < 11 → k = 1 ∨ 5 ≤ k → m'.2.2.1 (ad k) = m.2.2.1 (ad k) ∧ m'.2.2.2.1 (ad k) = m.2.2.2.1 (ad k) := fun k hk h1 => h.at S (Or.inl (by omega)) (fun q => by have := hp k (by omega) q; omega)
  refine ⟨?_, ?_, ?_, ?_, ?_, ?_, ?_, ?_, ?_⟩
  · rw [(hn 1 (by omega) (by omega)).1]; exact h1
  · rw [(hn 1 (by omega) (by omega)).1]; exact h2
  · rw [(hn 1 (by omega) (by omega)).1]; exact h3
  · rw [(hn 5 (by omega) (by omega)).1]; exact h4
  · rw [(hn 6 (by omega) (by omega)).1]; exact h5
  · rw [(hn 7 (by omega) (by omega)).1]; exact h6
  · rw [(hn 8 (by omega) (by omega)).1]; exact h7
  · rw [(hn 9 (by omega) (by omega)).1]; exact h8
  · rw [(hn 10 (by omega) (by omega)).2]; exact h9
theorem nIf_up (f : Nat → Nat) (x v : Nat) : va_up (fun i => nI (f i)) x (nI v) = fun i => nI (va_up f x v i) := by
  funext i
  by_cases h : i = x
  · subst h; rw [va_up_self, va_up_self]
  · rw [va_up_ne _ _ h, va_up_ne _ _ h]
/-! What is told, in pure words. -/
def dPort (d : LD) : LD := ((d.1.1, d.1.2.1, d.1.2.2 + 1), d.2)
def shM (sh : Nat → Nat) (r0 n : Nat) : Nat → Nat → Nat
  | 0 => sh
  | k + 1 => va_up (shM sh r0 n k) (3 * (r0 + k) + n - 1) 27720
def dMach (d : LD) (n : Nat) : LD := ((d.1.1, d.1.2.1 + 1, d.1.2.2), va_up d.2.1 d.1.2.1 n, d.2.2.1, shM d.2.2.2.1 (d.1.2.1 * d.1.1) n d.1.1, d.2.2.2.2)
def dShare (d : LD) (j k o u : Nat) : LD := (d.1, d.2.1, d.2.2.1, va_up (va_up d.2.2.2.1 (3 * (j * d.1.1 + k) + o) u) (3 * (j * d.1.1 + k) + (d.2.1 j - 1)) (d.2.2.2.1 (3 * (j * d.1.1 + k) + (d.2.1 j - 1)) + d.2.2.2.1 (3 * (j * d.1.1 + k) + o) - u), d.2.2.2.2)
section LN4
variable {l : Launch} {D : va_G} {ca : Nat → ClassId}
theorem c_Ln_addPort {m : jm_M} {ad : Nat → Nat} {d : LD} (S : SST m ad) (L : LnV m ad d) : jm_C l D ca n_Ln_addPort [.ref (ad 1)] m 0 0 (fun v m' => v = some (.int (nI d.1.2.2)) ∧ FRs ad (fun k => k = 1) m m' ∧ LnV m' ad (dPort d)) := by
  refine jm_C_of (cd := cd_Ln_addPort) (ini := false) (by decide +kernel) ok_Ln_addPort (fun h => by cases h) (Nat.le_of_ble_eq_true rfl) ?_
  intro X hX
  have o1 : jm_ok m (ad 1) 2 := S.ok 1 (Or.inl (by decide))
  refine jm_run hX [] 30 ?_
  refine And.intro rfl (And.intro o1 (And.intro o1 (And.intro o1 ?_)))
  refine ⟨Nat.le_refl _, Nat.le_refl _, trivial, ?_, FRs.uI (Or.inl (by decide)) rfl, ?_⟩
  · show some (Value.int (va_up m.2.2.1 (ad 1) (va_up (m.2.2.1 (ad 1)) 2 (m.2.2.1 (ad 1) 2 + 1)) (ad 1) 2 - 1)) = _
    rw [va_up_self, va_up_self, L.2.2.1, nI_1]
    show some (Value.int (nI (d.1.2.2 + 1) - nI 1)) = _
    rw [pk_sub (by omega), Nat.add_sub_cancel]
  · obtain ⟨h1, h2, h3, h4, h5, h6, h7, h8, h9⟩ := L
    have hn : ∀ k, k < 15 → k ≠ 1 → ∀ g, (uA m (ad 1) g).2.2.1 (ad k) = m.2.2.1 (ad k) := fun k hk hk1 g => va_up_ne _ _ (S.ne (Or.inl (by omega)) (Or.inl (by decide)) hk1)
    refine ⟨?_, ?_, ?_, ?_, ?_, ?_, ?_, ?_, h9⟩
    · show va_up m.2.2.1 (ad 1) (va_up (m.2.2.1 (ad 1)) 2 _) (ad 1) 0 = _
      rw [va_up_self, va_up_ne _ _ (by decide)]; exact h1
    · show va_up m.2.2.1 (ad 1) (va_up (m.2.2.1 (ad 1)) 2 _) (ad 1) 1 = _
      rw [va_up_self, va_up_ne _ _ (by decide)]; exact h2
    · show va_up m.2.2.1 (ad 1) (va_up (m.2.2.1 (ad 1)) 2 _) (ad 1) 2 = _
      rw [va_up_self, va_up_self, h3, nI_1]; rfl
    · rw [show (uI m (ad 1) 2 (m.2.2.1 (ad 1) 2 + 1)) = uA m (ad 1) _ from rfl, hn 5 (by decide) (by decide)]; exact h4
    · rw [show (uI m (ad 1) 2 (m.2.2.1 (ad 1) 2 + 1)) = uA m (ad 1) _ from rfl, hn 6 (by decide) (by decide)]; exact h5
    · rw [show (uI m (ad 1) 2 (m.2.2.1 (ad 1) 2 + 1)) = uA m (ad 1) _ from rfl, hn 7 (by decide) (by decide)]; exact h6
    · rw [show (uI m (ad 1) 2 (m.2.2.1 (ad 1) 2 + 1)) = uA m (ad 1) _ from rfl, hn 8 (by decide) (by decide)]; exact h7
    · rw [show (uI m (ad 1) 2 (m.2.2.1 (ad 1) 2 + 1)) = uA m (ad 1) _ from rfl, hn 9 (by decide) (by decide)]; exact h8
theorem c_Ln_addMachine {m : jm_M} {ad : Nat → Nat} {d : LD} {n : Nat} (S : SST m ad) (L : LnV m ad d) (hO : LOK d) (hM : d.1.2.1 < 3) (hn : 1 ≤ n ∧ n ≤ 3) : jm_C l D ca n_Ln_addMachine [.ref (ad 1), .int (nI n)] m 0 0 (fun v m' => v = some (.int (nI d.1.2.1)) ∧ FRs ad (fun k => k = 1 ∨ k = 5 ∨ k = 7) m m' ∧ LnV m' ad (dMach d n)) := by
  refine jm_C_of (cd := cd_Ln_addMachine) (ini := false) (by decide +kernel) ok_Ln_addMachine (fun h => by cases h) (Nat.le_of_ble_eq_true rfl) ?_
  intro X hX
  have o1 : jm_ok m (ad 1) 2 := S.ok 1 (Or.inl (by decide))
  have o5 : jm_ok m (ad 5) 50 := S.ok 5 (Or.inl (by decide))
  have r5 : m.2.2.2.2 (ad 1) 3 = some (ad 5) := S.2.2.1 (1, 3, 5) (by decide)
  have l5 : (m.2.1 (ad 5)).2 = 3 := S.len 5 (Or.inl (by decide))
  have o7 : jm_ok m (ad 7) 50 := S.ok 7 (Or.inl (by decide))
  have r7 : m.2.2.2.2 (ad 1) 5 = some (ad 7) := S.2.2.1 (1, 5, 7) (by decide)
  have l7 : (m.2.1 (ad 7)).2 = 27 := S.len 7 (Or.inl (by decide))
  have hK := hO.1
  have hne : ∀ {i j : Nat}, i < 15 → j < 15 → i ≠ j → ad i ≠ ad j := fun hi hj e => S.ne (Or.inl (by omega)) (Or.inl (by omega)) e
  let mk : Nat → jm_M := fun k => uA (uA m (ad 5) (fun i => nI (va_up d.2.1 d.1.2.1 n i))) (ad 7) (fun i => nI (shM d.2.2.2.1 (d.1.2.1 * d.1.1) n k i))
  have m1 : ∀ k, (mk k).2.2.1 (ad 1) = m.2.2.1 (ad 1) := fun k => by
    show va_up (va_up m.2.2.1 (ad 5) _) (ad 7) _ (ad 1) = _
    rw [va_up_ne _ _ (hne (by decide) (by decide) (by decide)), va_up_ne _ _ (hne (by decide) (by decide) (by decide))]
  have Lk : ∀ k, LnV (mk k) ad (d.1, va_up d.2.1 d.1.2.1 n, d.2.2.1, shM d.2.2.2.1 (d.1.2.1 * d.1.1) n k, d.2.2.2.2) := by
    intro k
    obtain ⟨h1, h2, h3, h4, h5, h6, h7, h8, h9⟩ := L
    refine ⟨?_, ?_, ?_, ?_, ?_, ?_, ?_, ?_, h9⟩
    · rw [m1]; exact h1
    · rw [m1]; exact h2
    · rw [m1]; exact h3
    · show va_up (va_up m.2.2.1 (ad 5) _) (ad 7) _ (ad 5) = _
      rw [va_up_ne _ _ (hne (by decide) (by decide) (by decide)), va_up_self]
    · show va_up (va_up m.2.2.1 (ad 5) _) (ad 7) _ (ad 6) = _
      rw [va_up_ne _ _ (hne (by decide) (by decide) (by decide)), va_up_ne _ _ (hne (by decide) (by decide) (by decide))]; exact h5
    · show va_up (va_up m.2.2.1 (ad 5) _) (ad 7) _ (ad 7) = _
      rw [va_up_self]
    · show va_up (va_up m.2.2.1 (ad 5) _) (ad 7) _ (ad 8) = _
      rw [va_up_ne _ _ (hne (by decide) (by decide) (by decide)), va_up_ne _ _ (hne (by decide) (by decide) (by decide))]; exact h7
    · show va_up (va_up m.2.2.1 (ad 5) _) (ad 7) _ (ad 9) = _
      rw [va_up_ne _ _ (hne (by decide) (by decide) (by decide)), va_up_ne _ _ (hne (by decide) (by decide) (by decide))]; exact h8
  have Sk : ∀ k, SST (mk k) ad := fun k => S
  have loop : ∀ (e k : Nat), k + e = d.1.1 → X 14 [(0, .ref (ad 1)), (1, .int (nI n)), (2, .int (nI d.1.2.1)), (3, .int (nI k))] [] (mk k) 0 0 := by
    intro e
    induction e with
    | zero =>
      intro k hk
      refine jm_run hX [] 40 ?_
      refine And.intro o1 (And.intro (fun _ => ?_) (fun g => ?_))
      · refine And.intro rfl (And.intro o1 (And.intro o1 ?_))
        have e1 : (mk k).2.2.1 (ad 1) 1 = nI d.1.2.1 := (Lk k).2.1
        refine ⟨Nat.le_refl _, Nat.le_refl _, trivial, rfl, ((FRs.uA (m := m) (i := 5) (Or.inl (by decide)) (Or.inr (Or.inl rfl))).tr (FRs.uA (i := 7) (Or.inl (by decide)) (Or.inr (Or.inr rfl)))).tr (FRs.uI (i := 1) (Or.inl (by decide)) (Or.inl rfl)), ?_⟩
        obtain ⟨h1, h2, h3, h4, h5, h6, h7, h8, h9⟩ := Lk k
        have hn1 : ∀ k', k' < 15 → k' ≠ 1 → ∀ g, (uA (mk k) (ad 1) g).2.2.1 (ad k') = (mk k).2.2.1 (ad k') := fun k' hk' hk1 g => va_up_ne _ _ (hne hk' (by decide) hk1)
        have ek : k = d.1.1 := by omega
        refine ⟨?_, ?_, ?_, ?_, ?_, ?_, ?_, ?_, h9⟩
        · show va_up (mk k).2.2.1 (ad 1) (va_up ((mk k).2.2.1 (ad 1)) 1 _) (ad 1) 0 = _
          rw [va_up_self, va_up_ne _ _ (by decide)]; exact h1
        · show va_up (mk k).2.2.1 (ad 1) (va_up ((mk k).2.2.1 (ad 1)) 1 ((mk k).2.2.1 (ad 1) 1 + 1)) (ad 1) 1 = _
          rw [va_up_self, va_up_self, e1, nI_1]; rfl
        · show va_up (mk k).2.2.1 (ad 1) (va_up ((mk k).2.2.1 (ad 1)) 1 _) (ad 1) 2 = _
          rw [va_up_self, va_up_ne _ _ (by decide)]; exact h3
        · exact (hn1 5 (by decide) (by decide) _).trans h4
        · exact (hn1 6 (by decide) (by decide) _).trans h5
        · exact (hn1 7 (by decide) (by decide) _).trans (h6.trans (by subst ek; rfl))
        · exact (hn1 8 (by decide) (by decide) _).trans h7
        · exact (hn1 9 (by decide) (by decide) _).trans h8
      · have g : ¬ (mk k).2.2.1 (ad 1) 0 ≤ nI k := g
        rw [(Lk k).1] at g
        exact absurd (nI_le (show d.1.1 ≤ k by omega) (by omega)) g
    | succ e ih =>
      intro k hk
      have hrow := row_lt (M := 3) hK.2 (by omega) hM (show k < d.1.1 by omega)
      have kk := ih (k + 1) (by omega)
      have e3 : nI (d.1.2.1 * d.1.1 + k) * 3 + nI n - 1 = nI (3 * (d.1.2.1 * d.1.1 + k) + n - 1) := by
        have e3 : (3 : Int32) = nI 3 := rfl
        have e1 : (1 : Int32) = nI 1 := rfl
        rw [e3, e1, pk_mul, nI_add, pk_sub (by omega), Nat.mul_comm]
      refine jm_run hX [(14, [0, 1, 2, 3])] 40 ?_
      refine And.intro o1 (And.intro (fun g => ?_) (fun _ => ?_))
      · have g : (mk k).2.2.1 (ad 1) 0 ≤ nI k := g
        rw [show (mk k).2.2.1 (ad 1) 0 = nI d.1.1 from (Lk k).1] at g
        exact absurd g (nI_ge (show k < d.1.1 by omega) (by omega))
      refine And.intro o1 ⟨some (ad 7), r7, ?_⟩
      refine And.intro o1 (And.intro (Nat.le_of_ble_eq_true rfl) (And.intro (Nat.le_of_ble_eq_true rfl) ⟨0, 0, _, Nat.le_refl _, Nat.le_refl _, c_Ln_row (m := mk k) (Sk k) (Lk k), fun v m' hq => ?_⟩))
      obtain ⟨rfl, rfl⟩ := hq
      refine And.intro o7 (And.intro ?_ ?_)
      · show vp_in (nI (d.1.2.1 * d.1.1 + k) * 3 + nI n - 1) (m.2.1 (ad 7)).2
        rw [e3]; exact vin_of l7 (by omega) (by decide)
      have em : mk (k + 1) = uI (mk k) (ad 7) (3 * (d.1.2.1 * d.1.1 + k) + n - 1) 27720 := by
        show _ = uI (uA _ (ad 7) _) (ad 7) _ _
        rw [uI_uA, show (27720 : Int32) = nI 27720 from rfl, nIf_up]
        rfl
      rw [em, ← nI_1] at kk
      have k2 : X 14 [(0, .ref (ad 1)), (1, .int (nI n)), (2, .int (nI d.1.2.1)), (3, .int (nI k + 1))] [] (uI (mk k) (ad 7) (nI (d.1.2.1 * d.1.1 + k) * 3 + nI n - 1).toNatClampNeg 27720) 0 0 := by
        rw [e3, nI_c (by omega)]; exact kk
      exact k2
  have k0 := loop d.1.1 0 (by omega)
  have em : mk 0 = uI m (ad 5) d.1.2.1 (nI n) := by
    show uA (uA m (ad 5) _) (ad 7) (fun i => nI (d.2.2.2.1 i)) = uA m (ad 5) (va_up (m.2.2.1 (ad 5)) d.1.2.1 (nI n))
    rw [L.2.2.2.1, nIf_up]
    refine uA_id' ?_
    show va_up m.2.2.1 (ad 5) _ (ad 7) = _
    rw [va_up_ne _ _ (hne (by decide) (by decide) (by decide))]; exact L.2.2.2.2.2.1
  rw [em] at k0
  refine jm_run hX [(14, [0, 1, 2, 3])] 20 ?_
  refine And.intro o1 (And.intro o1 ⟨some (ad 5), r5, And.intro o5 (And.intro ?_ ?_)⟩)
  · show vp_in (m.2.2.1 (ad 1) 1) (m.2.1 (ad 5)).2
    rw [L.2.1]; exact vin_of l5 hM (by decide)
  have k2 : X 14 [(0, .ref (ad 1)), (1, .int (nI n)), (2, .int (m.2.2.1 (ad 1) 1)), (3, .int (nI 0))] [] (uI m (ad 5) (m.2.2.1 (ad 1) 1).toNatClampNeg (nI n)) 0 0 := by
    rw [L.2.1, nI_c (by omega)]; exact k0
  exact k2
theorem c_Ln_setShare {m : jm_M} {ad : Nat → Nat} {d : LD} {j k o u : Nat} (S : SST m ad) (L : LnV m ad d) (hO : LOK d) (hj : j < d.1.2.1) (hk : k < d.1.1) (ho : o + 1 < d.2.1 j) (hu : u ≤ 27720) : jm_C l D ca n_Ln_setShare [.ref (ad 1), .int (nI j), .int (nI k), .int (nI o), .int (nI u)] m 0 0 (fun v m' => (u ≤ d.2.2.2.1 (3 * (j * d.1.1 + k) + (d.2.1 j - 1)) + d.2.2.2.1 (3 * (j * d.1.1 + k) + o) ∧ v = some (.int 1) ∧ FRs ad (fun k => k = 7) m m' ∧ LnV m' ad (dShare d j k o u)) ∨ (¬ u ≤ d.2.2.2.1 (3 * (j * d.1.1 + k) + (d.2.1 j - 1)) + d.2.2.2.1 (3 * (j * d.1.1 + k) + o) ∧ v = some (.int 0) ∧ m' = m)) := by
  refine jm_C_of (cd := cd_Ln_setShare) (ini := false) (by decide +kernel) ok_Ln_setShare (fun h => by cases h) (Nat.le_of_ble_eq_true rfl) ?_
  intro X hX
  have o1 : jm_ok m (ad 1) 2 := S.ok 1 (Or.inl (by decide))
  have o7 : jm_ok m (ad 7) 50 := S.ok 7 (Or.inl (by decide))
  have r7 : m.2.2.2.2 (ad 1) 5 = some (ad 7) := S.2.2.1 (1, 5, 7) (by decide)
  have l7 : (m.2.1 (ad 7)).2 = 27 := S.len 7 (Or.inl (by decide))
  have hK := hO.1
  have hM := hO.2.1
  have hou := hO.2.2.2.1 j hj
  have hrow := row_lt hK.2 hM hj hk
  have hs1 := hO.2.2.2.2.2.1 _ hrow o (by omega)
  have hs2 := hO.2.2.2.2.2.1 _ hrow (d.2.1 j - 1) (by omega)
  have ef : nI (j * d.1.1 + k) * 3 = nI (3 * (j * d.1.1 + k)) := by
    have e3 : (3 : Int32) = nI 3 := rfl
    rw [e3, pk_mul, Nat.mul_comm]
  have el : nI (j * d.1.1 + k) * 3 + nI (d.2.1 j - 1) = nI (3 * (j * d.1.1 + k) + (d.2.1 j - 1)) := by rw [ef, nI_add]
  have eo : nI (j * d.1.1 + k) * 3 + nI o = nI (3 * (j * d.1.1 + k) + o) := by rw [ef, nI_add]
  have er : m.2.2.1 (ad 7) (nI (j * d.1.1 + k) * 3 + nI (d.2.1 j - 1)).toNatClampNeg + m.2.2.1 (ad 7) (nI (j * d.1.1 + k) * 3 + nI o).toNatClampNeg = nI (d.2.2.2.1 (3 * (j * d.1.1 + k) + (d.2.1 j - 1)) + d.2.2.2.1 (3 * (j * d.1.1 + k) + o)) := by
    rw [el, eo, nI_c (by omega), nI_c (by omega), L.2.2.2.2.2.1, nI_add]
  refine jm_run hX [] 60 ?_
  refine And.intro o1 (And.intro (Nat.le_of_ble_eq_true rfl) (And.intro (Nat.le_of_ble_eq_true rfl) ⟨0, 0, _, Nat.le_refl _, Nat.le_refl _, c_Ln_row S L, fun v m' hq => ?_⟩))
  obtain ⟨rfl, rfl⟩ := hq
  refine And.intro o1 (And.intro (Nat.le_of_ble_eq_true rfl) (And.intro (Nat.le_of_ble_eq_true rfl) ⟨0, 0, _, Nat.le_refl _, Nat.le_refl _, c_Ln_lastOut S L (by omega) hou.1, fun v m' hq => ?_⟩))
  obtain ⟨rfl, rfl⟩ := hq
  refine And.intro o1 ⟨some (ad 7), r7, And.intro o7 (And.intro ?_ ?_)⟩
  · show vp_in (nI (j * d.1.1 + k) * 3 + nI (d.2.1 j - 1)) (m'.2.1 (ad 7)).2
    rw [el]; exact vin_of l7 (by omega) (by decide)
  refine And.intro o1 ⟨some (ad 7), r7, And.intro o7 (And.intro ?_ ?_)⟩
  · show vp_in (nI (j * d.1.1 + k) * 3 + nI o) (m'.2.1 (ad 7)).2
    rw [eo]; exact vin_of l7 (by omega) (by decide)
  have ege : (0 : Int32) ≤ m'.2.2.1 (ad 7) (nI (j * d.1.1 + k) * 3 + nI (d.2.1 j - 1)).toNatClampNeg + m'.2.2.1 (ad 7) (nI (j * d.1.1 + k) * 3 + nI o).toNatClampNeg - nI u ↔ u ≤ d.2.2.2.1 (3 * (j * d.1.1 + k) + (d.2.1 j - 1)) + d.2.2.2.1 (3 * (j * d.1.1 + k) + o) := by
    rw [er, ige0, Int32.toInt_sub, nI_toInt (by omega), nI_toInt (by omega), Int.bmod_eq_of_le (by omega) (by omega)]
    omega
  refine And.intro (fun g => ?_) (fun g => ?_)
  · have g := ege.mp g
    refine And.intro o1 ⟨some (ad 7), r7, And.intro o7 (And.intro ?_ ?_)⟩
    · show vp_in (nI (j * d.1.1 + k) * 3 + nI o) (m'.2.1 (ad 7)).2
      rw [eo]; exact vin_of l7 (by omega) (by decide)
    refine And.intro o1 ⟨some (ad 7), r7, And.intro o7 (And.intro ?_ ?_)⟩
    · show vp_in (nI (j * d.1.1 + k) * 3 + nI (d.2.1 j - 1)) (m'.2.1 (ad 7)).2
      rw [el]; exact vin_of l7 (by omega) (by decide)
    refine ⟨Nat.le_refl _, Nat.le_refl _, Or.inr rfl, Or.inl ⟨g, ?_⟩⟩
    have em : uI (uI m' (ad 7) (nI (j * d.1.1 + k) * 3 + nI o).toNatClampNeg (nI u)) (ad 7) (nI (j * d.1.1 + k) * 3 + nI (d.2.1 j - 1)).toNatClampNeg (m'.2.2.1 (ad 7) (nI (j * d.1.1 + k) * 3 + nI (d.2.1 j - 1)).toNatClampNeg + m'.2.2.1 (ad 7) (nI (j * d.1.1 + k) * 3 + nI o).toNatClampNeg - nI u) = uA m' (ad 7) (fun i => nI ((dShare d j k o u).2.2.2.1 i)) := by
      rw [er, pk_sub g, el, eo, nI_c (by omega), nI_c (by omega)]
      show uI (uA m' (ad 7) _) (ad 7) _ _ = _
      rw [uI_uA, L.2.2.2.2.2.1, nIf_up, nIf_up]
      rfl
    refine ⟨rfl, ?_, ?_⟩
    · exact (FRs.uI (p := fun k => k = 7) (i := 7) (Or.inl (by decide)) rfl).tr (FRs.uI (i := 7) (Or.inl (by decide)) rfl)
    · refine Eq.mp (congrArg (fun z => LnV z ad (dShare d j k o u)) em.symm) ?_
      obtain ⟨h1, h2, h3, h4, h5, h6, h7, h8, h9⟩ := L
      have hn1 : ∀ k', k' < 15 → k' ≠ 7 → ∀ g, (uA m' (ad 7) g).2.2.1 (ad k') = m'.2.2.1 (ad k') := fun k' hk' hk1 g => va_up_ne _ _ (S.ne (Or.inl (by omega)) (Or.inl (by decide)) hk1)
      refine ⟨?_, ?_, ?_, ?_, ?_, va_up_self _ _ _, ?_, ?_, h9⟩
      · rw [hn1 1 (by decide) (by decide)]; exact h1
      · rw [hn1 1 (by decide) (by decide)]; exact h2
      · rw [hn1 1 (by decide) (by decide)]; exact h3
      · rw [hn1 5 (by decide) (by decide)]; exact h4
      · rw [hn1 6 (by decide) (by decide)]; exact h5
      · rw [hn1 8 (by decide) (by decide)]; exact h7
      · rw [hn1 9 (by decide) (by decide)]; exact h8
  · have g : ¬ u ≤ d.2.2.2.1 (3 * (j * d.1.1 + k) + (d.2.1 j - 1)) + d.2.2.2.1 (3 * (j * d.1.1 + k) + o) := fun q => g (ege.mpr q)
    exact ⟨Nat.le_refl _, Nat.le_refl _, Or.inl rfl, Or.inr ⟨g, rfl, rfl⟩⟩
end LN4
