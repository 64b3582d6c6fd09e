theorem nI_ne_m1 {j : Nat} (h : j < 2 ^ 31) : ¬ nI j = -1 := by
  rw [← Int32.toInt_inj, nI_toInt h, show (-1 : Int32).toInt = -1 by decide]; omega
section SH7
variable {l : Launch} {D : va_G} {ca : Nat → ClassId}
/-- solve: the line stands, or the first machine that keeps something -/
def slvQ (ad : Nat → Nat) (m : jm_M) (c : CSt) (v : Option Value) (m' : jm_M) : Prop :=
  (v = some (.int 0) ∧ stands c.1 ∧ FRa ad m m' ∧ CI m' ad (c.1, c.2.1, c.2.2.1, c.2.2.2.1, true, true, c.1)) ∨
  (∃ j, j < c.1.1.2.1 ∧ v = some (.int (nI (1 + j))) ∧ stk c.1 j ∧ (∀ i, i < j → ¬ stk c.1 i) ∧ FRa ad m m' ∧ CI m' ad (c.1, c.2.1, c.2.2.1, c.2.2.2.1, false, false, c.2.2.2.2.2.2))
set_option maxRecDepth 4000 in
theorem c_Sh_solveAll {m : jm_M} {ad : Nat → Nat} {c : CSt} (h : CI m ad c) (hB : LB c.1) (hFG : stands c.1 → ∀ F, RA c.1 F (c.1.1.2.1 * c.1.1.1) → FG (c.1.1.2.1 * c.1.1.1) F) : jm_C l D ca n_Sh_solveAll [.ref (ad 0)] m 0 0 (slvQ ad m c) := by
  refine jm_C_of (cd := cd_Sh_solveAll) (ini := false) (by decide +kernel) ok_Sh_solveAll (fun h => by cases h) (Nat.le_of_ble_eq_true rfl) ?_
  intro X hX
  have hO := h.2.2.1
  have hM := hO.2.1
  have o0 : ∀ {m' : jm_M}, SST m' ad → jm_ok m' (ad 0) 5 := fun S => S.ok 0 (Or.inl (by decide))
  have o1 : ∀ {m' : jm_M}, SST m' ad → jm_ok m' (ad 1) 2 := fun S => S.ok 1 (Or.inl (by decide))
  have o2 : ∀ {m' : jm_M}, SST m' ad → jm_ok m' (ad 2) 1 := fun S => S.ok 2 (Or.inl (by decide))
  have o3 : ∀ {m' : jm_M}, SST m' ad → jm_ok m' (ad 3) 3 := fun S => S.ok 3 (Or.inl (by decide))
  have r1 : ∀ {m' : jm_M}, SST m' ad → m'.2.2.2.2 (ad 0) 0 = some (ad 1) := fun S => S.2.2.1 (0, 0, 1) (by decide)
  have r2 : ∀ {m' : jm_M}, SST m' ad → m'.2.2.2.2 (ad 0) 1 = some (ad 2) := fun S => S.2.2.1 (0, 1, 2) (by decide)
  have r3 : ∀ {m' : jm_M}, SST m' ad → m'.2.2.2.2 (ad 0) 2 = some (ad 3) := fun S => S.2.2.1 (0, 2, 3) (by decide)
  have key := c_Ln_firstStuck (l := l) (D := D) (ca := ca) h.1 h.2.1 hO h.2.2.2.1
  refine jm_run hX [(13, [0, 1]), (30, [0])] 20 ?_
  refine And.intro (o0 h.1) ⟨some (ad 1), r1 h.1, ?_⟩
  refine And.intro (o1 h.1) (And.intro (Nat.le_of_ble_eq_true rfl) (And.intro (Nat.le_of_ble_eq_true rfl) ⟨0, 0, _, Nat.le_refl _, Nat.le_refl _, key, fun v m1 hq => ?_⟩))
  obtain ⟨em, r, rfl, hfs⟩ := hq
  have h1 := h.go em
  have hR1 : FRa ad m m1 := by rw [em]; exact (FRs.uA (p := fun k => k = 14) (i := 14) (Or.inl (by decide)) rfl).a
  clear em
  rcases hfs with ⟨j, hj, er, hst, hmin⟩ | ⟨er, hst⟩
  · -- stuck
    subst er
    have kk : X 13 [(0, .ref (ad 0)), (1, .int (nI j))] [] m1 0 0 := by
      have S1 := h1.1
      refine jm_run hX [] 20 ?_
      refine And.intro (o0 S1) ⟨some (ad 3), r3 S1, And.intro (o3 S1) (And.intro (Or.inl rfl) (And.intro (o0 S1) (And.intro (Or.inl rfl) ?_)))⟩
      refine ⟨Nat.le_refl _, Nat.le_refl _, trivial, Or.inr ⟨j, hj, ?_, hst, hmin, ?_⟩⟩
      · show some (Value.int (nI 1 + nI j)) = _
        rw [nI_add]
      have hR : FRs ad (fun k => k = 0 ∨ k = 3) m1 (uI (uI m1 (ad 3) 0 0) (ad 0) 3 0) := (FRs.uI (i := 3) (Or.inl (by decide)) (Or.inr rfl)).tr (FRs.uI (i := 0) (Or.inl (by decide)) (Or.inl rfl))
      obtain ⟨q1, q2, q3, q4, q5, q6, q7⟩ := h1.c0.mv hR (fun k q => by omega)
      obtain ⟨V, hW, _⟩ := h1.2.2.2.2.2.2.2.2.2
      refine ⟨hR1.tr hR.a, q1, q2, q3, q4, q5, q6, q7, ?_, ?_, V, hR.V S1 (fun k q => by omega) hW, fun q => by cases q⟩
      · show va_up _ (ad 0) (va_up _ 3 0) (ad 0) 3 = _
        rw [va_up_self, va_up_self]; rfl
      · show va_up (va_up m1.2.2.1 (ad 3) (va_up (m1.2.2.1 (ad 3)) 0 0)) (ad 0) _ (ad 3) 0 = _
        rw [va_up_ne _ _ (S1.ne (Or.inl (by decide)) (Or.inl (by decide)) (by decide)), va_up_self, va_up_self]; rfl
    refine And.intro (fun g => ?_) (fun _ => kk)
    exact absurd g (nI_ne_m1 (by omega))
  · subst er
    have kk : X 30 [(0, .ref (ad 0))] [] m1 0 0 := by
      have S1 := h1.1
      have L1 := h1.2.1
      obtain ⟨V, hW, _⟩ := h1.2.2.2.2.2.2.2.2.2
      obtain ⟨F, hF⟩ := FlV_ex m1 ad
      have krl := c_Fl_readLine (l := l) (D := D) (ca := ca) S1 L1 hO hB hF hW
      refine jm_run hX [] 30 ?_
      refine And.intro (o0 S1) ⟨some (ad 2), r2 S1, ?_⟩
      refine And.intro (o2 S1) (And.intro (Nat.le_of_ble_eq_true rfl) (And.intro (Nat.le_of_ble_eq_true rfl) ⟨0, 0, _, Nat.le_refl _, Nat.le_refl _, krl, fun v m2 hq => ?_⟩))
      obtain ⟨rfl, hR2, hs2, F', V2, hF2, hA2, hW2, hhi2, hro2⟩ := hq
      have S2 := hR2.S S1
      have hG := hFG hst F' hA2
      have kel := w_elim (l := l) (D := D) (ca := ca) S2 hO hB hF2 hA2 hG hW2 hs2 hro2
      refine And.intro (o0 S2) ⟨some (ad 2), r2 S2, ?_⟩
      refine And.intro (o2 S2) (And.intro (Nat.le_of_ble_eq_true rfl) (And.intro (Nat.le_of_ble_eq_true rfl) ⟨0, 0, _, Nat.le_refl _, Nat.le_refl _, kel, fun v m3 hq => ?_⟩))
      obtain ⟨rfl, hR3, V3, hsol, hhi3⟩ := hq
      have S3 := hR3.S S2
      have hR23 : FRs ad fP m1 m3 := hR2.tr (FRs.W (fun k h _ => Or.inr (Or.inr h)) hR3)
      have h3 := h1.c0.mv hR23 (fun k q => by unfold fP fk at q; omega)
      have kt := c_Sh_takeSolution (l := l) (D := D) (ca := ca) h3 hsol
      refine And.intro (o0 S3) (And.intro (Nat.le_of_ble_eq_true rfl) (And.intro (Nat.le_of_ble_eq_true rfl) ⟨0, 0, _, Nat.le_refl _, Nat.le_refl _, kt, fun v m4 hq => ?_⟩))
      obtain ⟨rfl, hR4, h4⟩ := hq
      exact ⟨Nat.le_refl _, Nat.le_refl _, trivial, Or.inl ⟨rfl, hst, hR1.tr (hR23.a.tr hR4), h4⟩⟩
    refine And.intro (fun _ => kk) (fun g => ?_)
    exact absurd rfl g
theorem c_Sh_solve {m : jm_M} {ad : Nat → Nat} {c : CSt} (h : CI m ad c) (hB : LB c.1) (hFG : stands c.1 → ∀ F, RA c.1 F (c.1.1.2.1 * c.1.1.1) → FG (c.1.1.2.1 * c.1.1.1) F) : jm_C l D ca n_Sh_solve [.ref (ad 0)] m 0 0 (slvQ ad m c) := by
  refine jm_C_of (cd := cd_Sh_solve) (ini := false) (by decide +kernel) ok_Sh_solve (fun h => by cases h) (Nat.le_of_ble_eq_true rfl) ?_
  intro X hX
  have o0 : jm_ok m (ad 0) 5 := h.1.ok 0 (Or.inl (by decide))
  refine jm_run hX [] 20 ?_
  refine And.intro o0 (And.intro (Nat.le_of_ble_eq_true rfl) (And.intro (Nat.le_of_ble_eq_true rfl) ⟨0, 0, _, Nat.le_refl _, Nat.le_refl _, c_Sh_solveAll h hB hFG, fun v m2 hq => ?_⟩))
  rcases hq with ⟨rfl, q⟩ | ⟨j, hj, rfl, q⟩
  · exact ⟨Nat.le_refl _, Nat.le_refl _, trivial, Or.inl ⟨rfl, q⟩⟩
  · exact ⟨Nat.le_refl _, Nat.le_refl _, trivial, Or.inr ⟨j, hj, rfl, q⟩⟩
end SH7
