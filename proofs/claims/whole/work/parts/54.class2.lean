/-- the line was told something -/
theorem CI.ln {m m' : jm_M} {ad : Nat → Nat} {c : CSt} {d' : LD} {un : Bool} {p : Nat → Prop} (h : CI m ad c) (hR : FRs ad p m m') (hp : ∀ k, p k → k ≤ 10 ∧ k ≠ 2 ∧ k ≠ 3 ∧ k ≠ 4) (L' : LnV m' ad d') (hO' : LOK d') (hK : d'.1.1 = c.1.1.1) (hu : m'.2.2.1 (ad 0) 3 = bI un) : CI m' ad (d', c.2.1, c.2.2.1, c.2.2.2.1, un, c.2.2.2.2.2.1, c.2.2.2.2.2.2) := by
  obtain ⟨S, L, hO, G, h11, h12, h13, h0, h3, V, hW, hKn⟩ := h
  have at' : ∀ k, kin k → 11 ≤ k ∨ k = 3 → m'.2.2.1 (ad k) = m.2.2.1 (ad k) ∧ m'.2.2.2.1 (ad k) = m.2.2.2.1 (ad k) := fun k hk h2 => hR.at S hk (fun q => by have := hp k q; omega)
  refine ⟨hR.S S, L', hO', G.mv S hR (fun q => by have := hp 14 q; omega), ?_, ?_, ?_, hu, ?_, V, hR.V S (fun k q => by have := hp k q; omega) hW, fun hk => ?_⟩
  · rw [(at' 11 (Or.inl (by decide)) (by decide)).1]; exact h11
  · rw [(at' 12 (Or.inl (by decide)) (by decide)).2]; exact h12
  · rw [(at' 13 (Or.inl (by decide)) (by decide)).2]; exact h13
  · rw [(at' 3 (Or.inl (by decide)) (by decide)).1]; exact h3
  · obtain ⟨k1, k2, k3, k4, k5⟩ := hKn hk
    refine ⟨by rw [(at' 3 (Or.inl (by decide)) (by decide)).1]; exact k1, by rw [(at' 3 (Or.inl (by decide)) (by decide)).1]; exact k2, ?_, k4, k5⟩
    exact k3.trans hK.symm
theorem jOK.mo {M P M' P' : Nat} {t : Int32} (h : jOK M P t) (h1 : M ≤ M') (h2 : P ≤ P') : jOK M' P' t := by
  unfold jOK at h ⊢
  omega
theorem shM_le {sh : Nat → Nat} {r0 n : Nat} (h : ∀ i, sh i ≤ 27720 ∨ 27 ≤ i) : ∀ k i, shM sh r0 n k i ≤ 27720 ∨ 27 ≤ i
  | 0, i => h i
  | k + 1, i => by
    show va_up (shM sh r0 n k) (3 * (r0 + k) + n - 1) 27720 i ≤ 27720 ∨ 27 ≤ i
    by_cases e : i = 3 * (r0 + k) + n - 1
    · rw [e, va_up_self]; exact Or.inl (Nat.le_refl _)
    · rw [va_up_ne _ _ e]; exact shM_le h k i
theorem LOK.sh {d : LD} (h : LOK d) : ∀ i, d.2.2.2.1 i ≤ 27720 ∨ 27 ≤ i := fun i => by
  rcases Nat.lt_or_ge i 27 with q | q
  · have := h.2.2.2.2.2.1 (i / 3) (by omega) (i % 3) (by omega)
    rw [show 3 * (i / 3) + i % 3 = i by omega] at this
    exact Or.inl this
  · exact Or.inr q
theorem LOK.mach {d : LD} {n : Nat} (h : LOK d) (hM : d.1.2.1 < 3) (hn : 1 ≤ n ∧ n ≤ 3) : LOK (dMach d n) := by
  obtain ⟨h1, h2, h3, h4, h5, h6, h7, h8, h9⟩ := h
  have hsh := LOK.sh ⟨h1, h2, h3, h4, h5, h6, h7, h8, h9⟩
  refine ⟨h1, (by show d.1.2.1 + 1 ≤ 3; omega), h3, fun j hj => ?_, fun i hi => (h5 i hi).mo (by show d.1.2.1 ≤ d.1.2.1 + 1; omega) (Nat.le_refl _), fun r hr o ho => ?_, h7, h8, h9⟩
  · show 1 ≤ va_up d.2.1 d.1.2.1 n j ∧ va_up d.2.1 d.1.2.1 n j ≤ 3
    by_cases e : j = d.1.2.1
    · rw [e, va_up_self]; exact hn
    · rw [va_up_ne _ _ e]
      have hj : j < d.1.2.1 + 1 := hj
      exact h4 j (by omega)
  · rcases shM_le (r0 := d.1.2.1 * d.1.1) (n := n) hsh d.1.1 (3 * r + o) with q | q
    · exact q
    · omega
theorem LOK.port {d : LD} (h : LOK d) (hP : d.1.2.2 < 3) : LOK (dPort d) := by
  obtain ⟨h1, h2, h3, h4, h5, h6, h7, h8, h9⟩ := h
  exact ⟨h1, h2, (by show d.1.2.2 + 1 ≤ 3; omega), h4, fun i hi => (h5 i hi).mo (Nat.le_refl _) (by show d.1.2.2 ≤ d.1.2.2 + 1; omega), h6, h7, h8, h9⟩
def dJoin (d : LD) (i : Nat) (t : Int32) : LD := (d.1, d.2.1, va_up d.2.2.1 i t, d.2.2.2)
theorem LOK.join {d : LD} {i : Nat} {t : Int32} (h : LOK d) (ht : jOK d.1.2.1 d.1.2.2 t) : LOK (dJoin d i t) := by
  obtain ⟨h1, h2, h3, h4, h5, h6, h7, h8, h9⟩ := h
  refine ⟨h1, h2, h3, h4, fun q hq => ?_, h6, h7, h8, h9⟩
  show jOK d.1.2.1 d.1.2.2 (va_up d.2.2.1 i t q)
  by_cases e : q = i
  · rw [e, va_up_self]; exact ht
  · rw [va_up_ne _ _ e]; exact h5 q hq
def dFeed (d : LD) (r g : Nat) : LD := (d.1, d.2.1, d.2.2.1, d.2.2.2.1, d.2.2.2.2.1, d.2.2.2.2.2.1, va_up d.2.2.2.2.2.2 r g)
theorem LOK.feed {d : LD} {r g : Nat} (h : LOK d) (hg : g ≤ 1000000) : LOK (dFeed d r g) := by
  obtain ⟨h1, h2, h3, h4, h5, h6, h7, h8, h9⟩ := h
  refine ⟨h1, h2, h3, h4, h5, h6, h7, h8, fun q hq => ?_⟩
  show va_up d.2.2.2.2.2.2 r g q ≤ 1000000
  by_cases e : q = r
  · rw [e, va_up_self]; exact hg
  · rw [va_up_ne _ _ e]; exact h9 q hq
def dCrush (d : LD) (r u k : Nat) : LD := (d.1, d.2.1, d.2.2.1, d.2.2.2.1, va_up d.2.2.2.2.1 r u, va_up d.2.2.2.2.2.1 r k, d.2.2.2.2.2.2)
theorem LOK.crush {d : LD} {r u k : Nat} (h : LOK d) (hu : u ≤ 27720) (hk : k < d.1.1) : LOK (dCrush d r u k) := by
  obtain ⟨h1, h2, h3, h4, h5, h6, h7, h8, h9⟩ := h
  refine ⟨h1, h2, h3, h4, h5, h6, fun q hq => ?_, fun q hq => ?_, h9⟩
  · show va_up d.2.2.2.2.1 r u q ≤ 27720
    by_cases e : q = r
    · rw [e, va_up_self]; exact hu
    · rw [va_up_ne _ _ e]; exact h7 q hq
  · show va_up d.2.2.2.2.2.1 r k q < d.1.1
    by_cases e : q = r
    · rw [e, va_up_self]; exact hk
    · rw [va_up_ne _ _ e]; exact h8 q hq
section SH2
variable {l : Launch} {D : va_G} {ca : Nat → ClassId}
theorem c_Sh_machine {m : jm_M} {ad : Nat → Nat} {c : CSt} (h : CI m ad c) (x : Int32) : jm_C l D ca n_Sh_machine [.ref (ad 0), .int x] m 0 0 (fun v m' => (v = some (.int (nI c.1.1.2.1)) ∧ c.1.1.2.1 < 3 ∧ (1 ≤ x.toInt ∧ x.toInt ≤ 3) ∧ FRa ad m m' ∧ CI m' ad (dMach c.1 x.toInt.toNat, c.2.1, c.2.2.1, c.2.2.2.1, false, c.2.2.2.2.2.1, c.2.2.2.2.2.2)) ∨ (v = some (.int (-1)) ∧ ¬ (c.1.1.2.1 < 3 ∧ (1 ≤ x.toInt ∧ x.toInt ≤ 3)) ∧ m' = m)) := by
  refine jm_C_of (cd := cd_Sh_machine) (ini := false) (by decide +kernel) ok_Sh_machine (fun h => by cases h) (Nat.le_of_ble_eq_true rfl) ?_
  intro X hX
  have S := h.1
  have L := h.2.1
  have hO := h.2.2.1
  have o0 : ∀ {m' : jm_M}, SST m' ad → jm_ok m' (ad 0) 5 := fun S => S.ok 0 (Or.inl (by decide))
  have o1 : ∀ {m' : jm_M}, SST m' ad → jm_ok m' (ad 1) 2 := fun S => S.ok 1 (Or.inl (by decide))
  have r1 : ∀ {m' : jm_M}, SST m' ad → m'.2.2.2.2 (ad 0) 0 = some (ad 1) := fun S => S.2.2.1 (0, 0, 1) (by decide)
  have hM := hO.2.1
  refine jm_run hX [(28, [0, 1])] 30 ?_
  refine And.intro (o0 S) ⟨some (ad 1), r1 S, And.intro (o1 S) (And.intro (fun g => ?_) (fun g => ?_))⟩
  · have g : nI 3 ≤ m.2.2.1 (ad 1) 1 := g
    rw [L.2.1, nI_leI (by decide) (by omega)] at g
    exact ⟨Nat.le_refl _, Nat.le_refl _, trivial, Or.inr ⟨rfl, by omega, rfl⟩⟩
  have g : ¬ nI 3 ≤ m.2.2.1 (ad 1) 1 := g
  rw [L.2.1, nI_leI (by decide) (by omega)] at g
  refine And.intro (fun g2 => ?_) (fun g2 => ?_)
  · have g2 : x < nI 1 := g2
    rw [iltN (by decide)] at g2
    exact ⟨Nat.le_refl _, Nat.le_refl _, trivial, Or.inr ⟨rfl, by omega, rfl⟩⟩
  have g2 : ¬ x < nI 1 := g2
  rw [iltN (by decide)] at g2
  refine And.intro (fun g3 => ?_) (fun g3 => ?_)
  · have g3 : x ≤ nI 3 := g3
    rw [iNle (by decide)] at g3
    refine And.intro (o0 S) (And.intro (Or.inl rfl) ?_)
    have hR1 : FRs ad (fun k => k = 0) m (uI m (ad 0) 3 0) := FRs.uI (i := 0) (Or.inl (by decide)) rfl
    have S1 := hR1.S S
    have L1 := hR1.L S (fun k _ q => by omega) L
    have ex : x = nI x.toInt.toNat := i_of (by omega)
    have hn : 1 ≤ x.toInt.toNat ∧ x.toInt.toNat ≤ 3 := by omega
    have key := c_Ln_addMachine (l := l) (D := D) (ca := ca) (n := x.toInt.toNat) S1 L1 hO (by omega) hn
    rw [← ex] at key
    have hu1 : (uI m (ad 0) 3 0).2.2.1 (ad 0) 3 = 0 := by
      show va_up m.2.2.1 (ad 0) (va_up (m.2.2.1 (ad 0)) 3 0) (ad 0) 3 = 0
      rw [va_up_self, va_up_self]
    have kk : X 28 [(0, .ref (ad 0)), (1, .int x)] [] (uI m (ad 0) 3 0) 0 0 := by
      generalize uI m (ad 0) 3 0 = m1 at *
      refine jm_run hX [] 20 ?_
      refine And.intro (o0 S1) ⟨some (ad 1), r1 S1, ?_⟩
      refine And.intro (o1 S1) (And.intro (Nat.le_of_ble_eq_true rfl) (And.intro (Nat.le_of_ble_eq_true rfl) ⟨0, 0, _, Nat.le_refl _, Nat.le_refl _, key, fun v m2 hq => ?_⟩))
      obtain ⟨rfl, hR2, L2⟩ := hq
      have hR : FRs ad (fun k => k = 0 ∨ k = 1 ∨ k = 5 ∨ k = 7) m m2 := (hR1.mo (fun k q => Or.inl q)).tr (hR2.mo (fun k q => Or.inr q))
      refine ⟨Nat.le_refl _, Nat.le_refl _, trivial, Or.inl ⟨rfl, by omega, by omega, hR.a, ?_⟩⟩
      refine h.ln hR (fun k q => by omega) L2 (hO.mach (by omega) hn) rfl ?_
      rw [(hR2.at S1 (k := 0) (Or.inl (by decide)) (by omega)).1, hu1]; rfl
    exact kk
  · have g3 : ¬ x ≤ nI 3 := g3
    rw [iNle (by decide)] at g3
    exact ⟨Nat.le_refl _, Nat.le_refl _, trivial, Or.inr ⟨rfl, by omega, rfl⟩⟩
theorem c_Sh_port {m : jm_M} {ad : Nat → Nat} {c : CSt} (h : CI m ad c) : jm_C l D ca n_Sh_port [.ref (ad 0)] m 0 0 (fun v m' => (v = some (.int (nI c.1.1.2.2)) ∧ c.1.1.2.2 < 3 ∧ FRa ad m m' ∧ CI m' ad (dPort c.1, c.2.1, c.2.2.1, c.2.2.2.1, false, c.2.2.2.2.2.1, c.2.2.2.2.2.2)) ∨ (v = some (.int (-1)) ∧ ¬ c.1.1.2.2 < 3 ∧ m' = m)) := by
  refine jm_C_of (cd := cd_Sh_port) (ini := false) (by decide +kernel) ok_Sh_port (fun h => by cases h) (Nat.le_of_ble_eq_true rfl) ?_
  intro X hX
  have S := h.1
  have L := h.2.1
  have hO := h.2.2.1
  have o0 : ∀ {m' : jm_M}, SST m' ad → jm_ok m' (ad 0) 5 := fun S => S.ok 0 (Or.inl (by decide))
  have o1 : ∀ {m' : jm_M}, SST m' ad → jm_ok m' (ad 1) 2 := fun S => S.ok 1 (Or.inl (by decide))
  have r1 : ∀ {m' : jm_M}, SST m' ad → m'.2.2.2.2 (ad 0) 0 = some (ad 1) := fun S => S.2.2.1 (0, 0, 1) (by decide)
  have hP := hO.2.2.1
  refine jm_run hX [(18, [0])] 30 ?_
  refine And.intro (o0 S) ⟨some (ad 1), r1 S, And.intro (o1 S) (And.intro (fun g => ?_) (fun g => ?_))⟩
  · have g : m.2.2.1 (ad 1) 2 < nI 3 := g
    rw [L.2.2.1, nI_ltI (by omega) (by decide)] at g
    refine And.intro (o0 S) (And.intro (Or.inl rfl) ?_)
    have hR1 : FRs ad (fun k => k = 0) m (uI m (ad 0) 3 0) := FRs.uI (i := 0) (Or.inl (by decide)) rfl
    have S1 := hR1.S S
    have L1 := hR1.L S (fun k _ q => by omega) L
    have key := c_Ln_addPort (l := l) (D := D) (ca := ca) S1 L1
    have hu1 : (uI m (ad 0) 3 0).2.2.1 (ad 0) 3 = 0 := by
      show va_up m.2.2.1 (ad 0) (va_up (m.2.2.1 (ad 0)) 3 0) (ad 0) 3 = 0
      rw [va_up_self, va_up_self]
    have kk : X 18 [(0, .ref (ad 0))] [] (uI m (ad 0) 3 0) 0 0 := by
      generalize uI m (ad 0) 3 0 = m1 at *
      refine jm_run hX [] 20 ?_
      refine And.intro (o0 S1) ⟨some (ad 1), r1 S1, ?_⟩
      refine And.intro (o1 S1) (And.intro (Nat.le_of_ble_eq_true rfl) (And.intro (Nat.le_of_ble_eq_true rfl) ⟨0, 0, _, Nat.le_refl _, Nat.le_refl _, key, fun v m2 hq => ?_⟩))
      obtain ⟨rfl, hR2, L2⟩ := hq
      have hR : FRs ad (fun k => k = 0 ∨ k = 1) m m2 := (hR1.mo (fun k q => Or.inl q)).tr (hR2.mo (fun k q => Or.inr q))
      refine ⟨Nat.le_refl _, Nat.le_refl _, trivial, Or.inl ⟨rfl, by omega, hR.a, ?_⟩⟩
      refine h.ln hR (fun k q => by omega) L2 (hO.port (by omega)) rfl ?_
      rw [(hR2.at S1 (k := 0) (Or.inl (by decide)) (by omega)).1, hu1]; rfl
    exact kk
  · have g : ¬ m.2.2.1 (ad 1) 2 < nI 3 := g
    rw [L.2.2.1, nI_ltI (by omega) (by decide)] at g
    exact ⟨Nat.le_refl _, Nat.le_refl _, trivial, Or.inr ⟨rfl, g, rfl⟩⟩
end SH2
