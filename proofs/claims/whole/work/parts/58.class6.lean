/-- the line and the spans -/
def CI0 (m : jm_M) (ad : Nat → Nat) (c : CSt) : Prop := SST m ad ∧ LnV m ad c.1 ∧ LOK c.1 ∧ GA m ad ∧ m.2.2.1 (ad 11) = (fun i => bI (c.2.1 i)) ∧ m.2.2.2.1 (ad 12) = (fun i => lN (c.2.2.1 i)) ∧ m.2.2.2.1 (ad 13) = (fun i => lN (c.2.2.2.1 i))
theorem CI.c0 {m : jm_M} {ad : Nat → Nat} {c : CSt} (h : CI m ad c) : CI0 m ad c := ⟨h.1, h.2.1, h.2.2.1, h.2.2.2.1, h.2.2.2.2.1, h.2.2.2.2.2.1, h.2.2.2.2.2.2.1⟩
theorem CI0.mv {m m' : jm_M} {ad : Nat → Nat} {c : CSt} {p : Nat → Prop} (h : CI0 m ad c) (hR : FRs ad p m m') (hp : ∀ k, p k → k = 0 ∨ k = 2 ∨ k = 3 ∨ 15 ≤ k) : CI0 m' ad c := by
  obtain ⟨S, L, hO, G, h11, h12, h13⟩ := h
  have at' : ∀ k, k < 15 → k ≠ 0 → k ≠ 2 → k ≠ 3 → m'.2.2.1 (ad k) = m.2.2.1 (ad k) ∧ m'.2.2.2.1 (ad k) = m.2.2.2.1 (ad k) := fun k hk h2 h3 h4 => hR.at S (Or.inl (by omega)) (fun q => by have := hp k q; omega)
  refine ⟨hR.S S, hR.L S (fun k hk q => by have := hp k q; omega) L, hO, G.mv S hR (fun q => by have := hp 14 q; omega), ?_, ?_, ?_⟩
  · rw [(at' 11 (by decide) (by decide) (by decide) (by decide)).1]; exact h11
  · rw [(at' 12 (by decide) (by decide) (by decide) (by decide)).2]; exact h12
  · rw [(at' 13 (by decide) (by decide) (by decide) (by decide)).2]; exact h13
theorem CI.go {m m' : jm_M} {ad : Nat → Nat} {c : CSt} (h : CI m ad c) (e : m' = uA m (ad 14) (gaR (rnds c.1 9))) : CI m' ad c := by
  subst e
  exact h.mv (p := fun k => k = 14) (FRs.uA (i := 14) (Or.inl (by decide)) rfl) (fun k q => by omega) (GA.rn h.2.2.1) (fun V hV => ⟨V, (FRs.uA (p := fun k => k = 14) (i := 14) (Or.inl (by decide)) rfl).V h.1 (fun k q => by omega) hV, fun _ _ _ => rfl⟩)
def stands (d : LD) : Prop := ∀ i, i < d.1.2.1 → ¬ stk d i
theorem hin1 {d : LD} {F : Nat → Nat → Nat} {V : Nat → Nat} (hO : LOK d) (hB : LB d) (hA : RA d F (d.1.2.1 * d.1.1)) (hro : ∀ r, r < d.1.2.1 * d.1.1 → rowOK d F V r) : ∀ i, i < d.1.2.1 * d.1.1 → ∀ q, q < d.1.2.1 * d.1.1 + 1 → (V (12 * i + q) : Int) = bz_g (d.1.2.1 * d.1.1) i q * am F (d.1.2.1 * d.1.1) (f0 d) i q := by
  intro i hi q hq
  have hn9 : d.1.2.1 * d.1.1 ≤ 9 := Nat.mul_le_mul hO.2.1 hO.1.2
  have hr := hro i hi
  unfold rowOK at hr
  by_cases e0 : q = d.1.2.1 * d.1.1
  · rw [e0, hr.2, bz_am_r (Nat.le_refl _)]; rfl
  · rw [hr.1 q (by omega)]
    have hb2 := (RA.at hB hA hi).2.1 (17 + i) (fk_m (by omega))
    by_cases e : i = q
    · subst e
      rw [if_pos rfl, bz_am_d hi hb2]
    · rw [if_neg e, bz_am_o (by omega) e]
theorem feed9 {d : LD} (hO : LOK d) : ds_nS (fun i => d.2.2.2.2.2.2 i) (d.1.2.1 * d.1.1) ≤ 9000000 := by
  have hn9 : d.1.2.1 * d.1.1 ≤ 9 := Nat.mul_le_mul hO.2.1 hO.1.2
  have := ds_nS_bd (f := fun i => d.2.2.2.2.2.2 i) (c := 1000000) (n := d.1.2.1 * d.1.1) (fun i hi => hO.2.2.2.2.2.2.2.2 i (by omega))
  have : d.1.2.1 * d.1.1 * 1000000 ≤ 9 * 1000000 := Nat.mul_le_mul_right _ hn9
  omega
theorem zs9 {d : LD} {F : Nat → Nat → Nat} (hO : LOK d) (hG : FG (d.1.2.1 * d.1.1) F) {i : Nat} (hi : i < d.1.2.1 * d.1.1) : zs F (d.1.2.1 * d.1.1) (f0 d) 0 i ≤ 166320 ^ 8 * 9000000 := by
  have hn9 : d.1.2.1 * d.1.1 ≤ 9 := Nat.mul_le_mul hO.2.1 hO.1.2
  have h2 := (am_C (f := f0 d) (j := d.1.2.1 * d.1.1 + 0) (R := 9000000) hG hn9 hi (by omega) (feed9 hO)).2
  unfold zs; omega
/-- the line is solved: what stands in the cells -/
def solV (m : jm_M) (ad : Nat → Nat) (d : LD) (F : Nat → Nat → Nat) (V : Nat → Nat) : Prop := FlV m ad F ∧ RA d F (d.1.2.1 * d.1.1) ∧ FG (d.1.2.1 * d.1.1) F ∧ WV m ad V ∧ m.2.2.1 (ad 2) 3 = nI (d.1.2.1 * d.1.1) ∧ V 108 = dt F (d.1.2.1 * d.1.1) (f0 d) ∧ ∀ i, i < d.1.2.1 * d.1.1 → V (12 * i + d.1.2.1 * d.1.1) = zs F (d.1.2.1 * d.1.1) (f0 d) 0 i
section SH6
variable {l : Launch} {D : va_G} {ca : Nat → ClassId}
theorem w_elim {m : jm_M} {ad V : Nat → Nat} {d : LD} {F : Nat → Nat → Nat} (S : SST m ad) (hO : LOK d) (hB : LB d) (hF : FlV m ad F) (hA : RA d F (d.1.2.1 * d.1.1)) (hG : FG (d.1.2.1 * d.1.1) F) (hV : WV m ad V) (hs : m.2.2.1 (ad 2) 3 = nI (d.1.2.1 * d.1.1)) (hro : ∀ r, r < d.1.2.1 * d.1.1 → rowOK d F V r) : jm_C l D ca n_Fl_eliminate [.ref (ad 2), .int (nI 1)] m 0 0 (fun v m' => v = none ∧ FRW ad m m' ∧ ∃ V', solV m' ad d F V' ∧ ∀ i, 117 ≤ i → i < 132 → V' i = V i) := by
  have hn9 : d.1.2.1 * d.1.1 ≤ 9 := Nat.mul_le_mul hO.2.1 hO.1.2
  refine jm_C_mo (c_Fl_eliminate (rs := 1) (a := am F (d.1.2.1 * d.1.1) (f0 d)) S hV hs hn9 (by decide) (by decide) (hG.1 _) (bz_B_of hn9 (fun q hq => am_cs hG hn9 hq) (fun q h1 h2 => ?_)) bzBig_ok (hin1 hO hB hA hro)) (fun v m' hq => ?_)
  · rw [am_rhs h1]; exact feed9 hO
  · obtain ⟨rfl, hR, V', hW, hhi, hd, hz⟩ := hq
    refine ⟨rfl, hR, V', ⟨hR.F S hF, hA, hG, hW, by rw [hR.I S (by decide)]; exact hs, by unfold dt; omega, fun i hi => ?_⟩, hhi⟩
    have := hz i hi (d.1.2.1 * d.1.1) (Nat.le_refl _) (by omega)
    unfold zs
    rw [Nat.add_zero]; omega
theorem c_Sh_takeSolution {m : jm_M} {ad V : Nat → Nat} {c : CSt} {F : Nat → Nat → Nat} (h : CI0 m ad c) (hs : solV m ad c.1 F V) : jm_C l D ca n_Sh_takeSolution [.ref (ad 0)] m 0 0 (fun v m' => v = none ∧ FRa ad m m' ∧ CI m' ad (c.1, c.2.1, c.2.2.1, c.2.2.2.1, true, true, c.1)) := by
  refine jm_C_of (cd := cd_Sh_takeSolution) (ini := false) (by decide +kernel) ok_Sh_takeSolution (fun h => by cases h) (Nat.le_of_ble_eq_true rfl) ?_
  intro X hX
  have S := h.1
  have L := h.2.1
  have hO := h.2.2.1
  obtain ⟨hF, hA, hG, hV, hsz, hd, hz⟩ := hs
  have hn9 : c.1.1.2.1 * c.1.1.1 ≤ 9 := Nat.mul_le_mul hO.2.1 hO.1.2
  have o0 : ∀ {m' : jm_M}, SST m' ad → jm_ok m' (ad 0) 5 := fun S => S.ok 0 (Or.inl (by decide))
  have o3 : ∀ {m' : jm_M}, SST m' ad → jm_ok m' (ad 3) 3 := fun S => S.ok 3 (Or.inl (by decide))
  have r1 : ∀ {m' : jm_M}, SST m' ad → m'.2.2.2.2 (ad 0) 0 = some (ad 1) := fun S => S.2.2.1 (0, 0, 1) (by decide)
  have r2 : ∀ {m' : jm_M}, SST m' ad → m'.2.2.2.2 (ad 0) 1 = some (ad 2) := fun S => S.2.2.1 (0, 1, 2) (by decide)
  have r3 : ∀ {m' : jm_M}, SST m' ad → m'.2.2.2.2 (ad 0) 2 = some (ad 3) := fun S => S.2.2.1 (0, 2, 3) (by decide)
  have hjn : ∀ j i, j < c.1.1.2.1 → i < c.1.1.1 → j * c.1.1.1 + i < c.1.1.2.1 * c.1.1.1 := by
    intro j i hj hi
    have := Nat.mul_le_mul_right c.1.1.1 (show j + 1 ≤ c.1.1.2.1 from hj)
    rw [Nat.add_mul, Nat.one_mul] at this
    omega
  have key := c_So_take (l := l) (D := D) (ca := ca) S L hO hF hV hsz rfl hz (fun r hr i hi => by have := hG.2.1 _ (fk_l hr) i hi; omega) (fun i hi => by have := hG.2.1 15 (Or.inl rfl) i hi; omega) (fun r hr => by
      refine Nat.lt_of_le_of_lt (Nat.le_trans (ds_nS_bd (c := 83160 * (166320 ^ 8 * 9000000)) (fun i hi => ?_)) (Nat.mul_le_mul_right _ hn9)) (show 9 * (83160 * (166320 ^ 8 * 9000000)) < wB ^ 13 by decide)
      exact Nat.mul_le_mul (hG.2.1 _ (fk_l hr) i hi) (zs9 hO hG hi)) (fun j hj => by
      refine Nat.lt_of_le_of_lt (Nat.le_trans (ds_nS_bd (c := 83160 * (166320 ^ 8 * 9000000)) (fun i hi => ?_)) (Nat.mul_le_mul_right _ hO.1.2)) (show 3 * (83160 * (166320 ^ 8 * 9000000)) < wB ^ 13 by decide)
      exact Nat.mul_le_mul (hG.2.1 15 (Or.inl rfl) _ (hjn j i hj hi)) (zs9 hO hG (hjn j i hj hi)))
  have tail : ∀ m1, FRs ad sP3 m m1 → m1.2.2.1 (ad 3) 0 = 1 → m1.2.2.1 (ad 3) 1 = nI c.1.1.2.1 → m1.2.2.1 (ad 3) 2 = nI c.1.1.2.2 → (∃ V', WV m1 ad V' ∧ tkV c.1 F (zs F (c.1.1.2.1 * c.1.1.1) (f0 c.1) 0) (c.1.1.2.1 * c.1.1.1) 9 c.1.1.2.1 V V') → X 15 [(0, .ref (ad 0))] [] m1 0 0 := by
    intro m1 hR g0 g1 g2 hV'
    obtain ⟨V', hW', hT⟩ := hV'
    have S1 := hR.S S
    have h1 := h.mv hR (fun k q => by unfold sP3 at q; omega)
    have hR0 : FRs ad (fun k => k = 0) m1 (uI m1 (ad 0) 3 1) := FRs.uI (i := 0) (Or.inl (by decide)) rfl
    have h2 := h1.mv hR0 (fun k q => Or.inl q)
    obtain ⟨q1, q2, q3, q4, q5, q6, q7⟩ := h2
    have e3 : (uI m1 (ad 0) 3 1).2.2.1 (ad 3) = m1.2.2.1 (ad 3) := (hR0.at S1 (k := 3) (Or.inl (by decide)) (by omega)).1
    refine jm_run hX [] 20 ?_
    refine And.intro (o0 S1) (And.intro (Or.inr rfl) ?_)
    refine ⟨Nat.le_refl _, Nat.le_refl _, trivial, rfl, hR.a.tr hR0.a, q1, q2, q3, q4, q5, q6, q7, ?_, ?_, V', hR0.V S1 (fun k q => by omega) hW', fun _ => ⟨?_, ?_, rfl, hO, F, hA, hG, ?_, ?_, ?_⟩⟩
    · show va_up _ (ad 0) (va_up _ 3 1) (ad 0) 3 = _
      rw [va_up_self, va_up_self]; rfl
    · rw [e3, g0]; rfl
    · rw [e3, g1]
    · rw [e3, g2]
    · rw [hT.1, hd]
    · intro p k hp hk
      exact hT.2.1 p k hp hk (row_lt hO.1.2 hO.2.2.1 hp hk)
    · exact hT.2.2.1
  refine jm_run hX [(15, [0])] 20 ?_
  refine And.intro (o0 S) ⟨some (ad 3), r3 S, And.intro (o0 S) ⟨some (ad 2), r2 S, And.intro (o0 S) ⟨some (ad 1), r1 S, ?_⟩⟩⟩
  refine And.intro (o3 S) (And.intro (Nat.le_of_ble_eq_true rfl) (And.intro (Nat.le_of_ble_eq_true rfl) ⟨0, 0, _, Nat.le_refl _, Nat.le_refl _, key, fun v m1 hq => ?_⟩))
  obtain ⟨rfl, hR, g0, g1, g2, hV'⟩ := hq
  exact tail m1 hR g0 g1 g2 hV'
end SH6
