/-! ShareSolve: its state in pure words. (line, spanned, lows, highs, untouched, known, the line as it was solved) -/
abbrev CSt : Type := LD × (Nat → Bool) × (Nat → Nat) × (Nat → Nat) × Bool × Bool × LD
/-- the right side of feeds -/
def f0 (d : LD) : Nat → Nat → Nat := fun i _ => d.2.2.2.2.2.2 i
/-- the numbers of a solution -/
def svN (d : LD) (F : Nat → Nat → Nat) (V : Nat → Nat) : Prop := RA d F (d.1.2.1 * d.1.1) ∧ FG (d.1.2.1 * d.1.1) F ∧ V 118 = dt F (d.1.2.1 * d.1.1) (f0 d) ∧ (∀ p k, p < d.1.2.2 → k < d.1.1 → V (119 + (p * d.1.1 + k)) = amz F (zs F (d.1.2.1 * d.1.1) (f0 d) 0) (p * d.1.1 + k) (d.1.2.1 * d.1.1)) ∧ ∀ j, j < d.1.2.1 → V (128 + j) = ldz F (zs F (d.1.2.1 * d.1.1) (f0 d) 0) (j * d.1.1) d.1.1
def SV (m : jm_M) (ad : Nat → Nat) (d ds : LD) (V : Nat → Nat) : Prop := m.2.2.1 (ad 3) 1 = nI ds.1.2.1 ∧ m.2.2.1 (ad 3) 2 = nI ds.1.2.2 ∧ ds.1.1 = d.1.1 ∧ LOK ds ∧ ∃ F, svN ds F V
def CI (m : jm_M) (ad : Nat → Nat) (c : CSt) : Prop :=
  SST m ad ∧ LnV m ad c.1 ∧ LOK c.1 ∧ GA m ad ∧ m.2.2.1 (ad 11) = (fun i => bI (c.2.1 i)) ∧ m.2.2.2.1 (ad 12) = (fun i => lN (c.2.2.1 i)) ∧ m.2.2.2.1 (ad 13) = (fun i => lN (c.2.2.2.1 i)) ∧ m.2.2.1 (ad 0) 3 = bI c.2.2.2.2.1 ∧ m.2.2.1 (ad 3) 0 = bI c.2.2.2.2.2.1 ∧ ∃ V, WV m ad V ∧ (c.2.2.2.2.2.1 = true → SV m ad c.1 c.2.2.2.2.2.2 V)
theorem nI_ex (x : Int32) : ∃ n : Nat, x = nI n := ⟨x.toBitVec.toNat, by
  apply Int32.toBitVec_inj.mp
  show x.toBitVec = BitVec.ofNat 32 x.toBitVec.toNat
  exact (BitVec.eq_of_toNat_eq (by rw [BitVec.toNat_ofNat]; exact Nat.mod_eq_of_lt x.toBitVec.isLt)).symm⟩
theorem FlV_ex (m : jm_M) (ad : Nat → Nat) : ∃ F, FlV m ad F := by
  refine ⟨fun t c => Classical.choose (nI_ex (m.2.2.1 (ad t) c)), fun t _ c _ => ?_⟩
  exact Classical.choose_spec (nI_ex (m.2.2.1 (ad t) c))
/-- nothing but the class's things has changed -/
abbrev FRa (ad : Nat → Nat) (m m' : jm_M) : Prop := FRs ad (fun _ => True) m m'
theorem FRs.a {ad : Nat → Nat} {p : Nat → Prop} {m m' : jm_M} (h : FRs ad p m m') : FRa ad m m' := h.mo (fun _ _ => trivial)
/-- Flow, its numbers and getsAway are all that changed: the state stays -/
theorem CI.mv {m m' : jm_M} {ad : Nat → Nat} {c : CSt} {p : Nat → Prop} (h : CI m ad c) (hR : FRs ad p m m') (hp : ∀ k, p k → k = 2 ∨ (14 ≤ k)) (hG : GA m' ad) (hV : ∀ V, WV m ad V → ∃ V', WV m' ad V' ∧ ∀ i, 118 ≤ i → i < 131 → V' i = V i) : CI m' ad c := by
  obtain ⟨S, L, hO, G, h11, h12, h13, h0, h3, V, hW, hK⟩ := h
  have at' : ∀ k, k < 14 → k ≠ 2 → m'.2.2.1 (ad k) = m.2.2.1 (ad k) ∧ m'.2.2.2.1 (ad k) = m.2.2.2.1 (ad k) := fun k hk h2 => hR.at S (Or.inl (by omega)) (fun q => by have := hp k q; omega)
  obtain ⟨V', hW', hs⟩ := hV V hW
  refine ⟨hR.S S, hR.L S (fun k hk q => by have := hp k q; omega) L, hO, hG, ?_, ?_, ?_, ?_, ?_, V', hW', fun hk => ?_⟩
  · rw [(at' 11 (by decide) (by decide)).1]; exact h11
  · rw [(at' 12 (by decide) (by decide)).2]; exact h12
  · rw [(at' 13 (by decide) (by decide)).2]; exact h13
  · rw [(at' 0 (by decide) (by decide)).1]; exact h0
  · rw [(at' 3 (by decide) (by decide)).1]; exact h3
  · obtain ⟨k1, k2, k3, k4, F, f1, f2, f3, f4, f5⟩ := hK hk
    refine ⟨by rw [(at' 3 (by decide) (by decide)).1]; exact k1, by rw [(at' 3 (by decide) (by decide)).1]; exact k2, k3, k4, F, f1, f2, by rw [hs 118 (by decide) (by decide)]; exact f3, fun p k hp hk => ?_, fun j hj => ?_⟩
    · have := row_lt k4.1.2 k4.2.2.1 hp hk
      rw [hs _ (by omega) (by omega)]; exact f4 p k hp hk
    · have := k4.2.1
      rw [hs _ (by omega) (by omega)]; exact f5 j hj
theorem GA.mv {m m' : jm_M} {ad : Nat → Nat} {p : Nat → Prop} (S : SST m ad) (h : GA m ad) (hR : FRs ad p m m') (hp : ¬ p 14) : GA m' ad := fun i hi => by
  rw [(hR.at S (k := 14) (Or.inl (by decide)) hp).1]; exact h i hi
theorem GA.rn {m : jm_M} {ad : Nat → Nat} {d : LD} (hO : LOK d) : GA (uA m (ad 14) (gaR (rnds d 9))) ad := fun i hi => by
  show va_up m.2.2.1 (ad 14) _ (ad 14) i = 0
  rw [va_up_self]
  show bI (rnds d 9 i) = 0
  rw [rnds_hi hO hi]; rfl
section SH1
variable {l : Launch} {D : va_G} {ca : Nat → ClassId}
theorem c_Sh_isPart {m : jm_M} (x : Int32) : jm_C l D ca n_Sh_isPart [.int x] m 0 0 (fun v m' => m' = m ∧ v = some (.int (if 0 ≤ x.toInt ∧ x.toInt ≤ 6 then 1 else 0))) := by
  refine jm_C_of (cd := cd_Sh_isPart) (ini := false) (by decide +kernel) ok_Sh_isPart (fun h => by cases h) (Nat.le_of_ble_eq_true rfl) ?_
  intro X hX
  refine jm_run hX [] 20 ?_
  refine And.intro (fun g => ?_) (fun g => ?_)
  · rw [ilt0] at g
    exact ⟨Nat.le_refl _, Nat.le_refl _, Or.inl rfl, rfl, by rw [if_neg (by omega)]⟩
  · rw [ilt0] at g
    refine And.intro (fun g2 => ?_) (fun g2 => ?_)
    · have g2 : nI 6 < x := g2
      rw [iNlt (by decide)] at g2
      exact ⟨Nat.le_refl _, Nat.le_refl _, Or.inl rfl, rfl, by rw [if_neg (by omega)]⟩
    · have g2 : ¬ nI 6 < x := g2
      rw [iNlt (by decide)] at g2
      exact ⟨Nat.le_refl _, Nat.le_refl _, Or.inr rfl, rfl, by rw [if_pos (by omega)]⟩
theorem c_Sh_isShare {m : jm_M} (x y : Int64) : jm_C l D ca n_Sh_isShare [.long x, .long y] m 0 0 (fun v m' => m' = m ∧ v = some (.int (if (1 ≤ y.toInt ∧ y.toInt ≤ 12) ∧ 0 ≤ x.toInt ∧ x.toInt ≤ y.toInt then 1 else 0))) := by
  refine jm_C_of (cd := cd_Sh_isShare) (ini := false) (by decide +kernel) ok_Sh_isShare (fun h => by cases h) (Nat.le_of_ble_eq_true rfl) ?_
  intro X hX
  have e1 : (1 : Int64).toInt = 1 := by decide
  have e0 : (0 : Int64).toInt = 0 := by decide
  have e12 : (12 : Int64).toInt = 12 := by decide
  refine jm_run hX [] 30 ?_
  refine And.intro (fun g => ?_) (fun g => ?_)
  · have g : lg_cmp y 1 < 0 := g
    rw [lg_cmp_lt, Int64.lt_iff_toInt_lt, e1] at g
    exact ⟨Nat.le_refl _, Nat.le_refl _, Or.inl rfl, rfl, by rw [if_neg (by omega)]⟩
  have g : ¬ lg_cmp y 1 < 0 := g
  rw [lg_cmp_lt, Int64.lt_iff_toInt_lt, e1] at g
  refine And.intro (fun g2 => ?_) (fun g2 => ?_)
  · have g2 : 0 < lg_cmp y 12 := g2
    rw [lg_cmp_gt, Int64.lt_iff_toInt_lt, e12] at g2
    exact ⟨Nat.le_refl _, Nat.le_refl _, Or.inl rfl, rfl, by rw [if_neg (by omega)]⟩
  have g2 : ¬ 0 < lg_cmp y 12 := g2
  rw [lg_cmp_gt, Int64.lt_iff_toInt_lt, e12] at g2
  refine And.intro (fun g3 => ?_) (fun g3 => ?_)
  · have g3 : lg_cmp x 0 < 0 := g3
    rw [lg_cmp_lt, Int64.lt_iff_toInt_lt, e0] at g3
    exact ⟨Nat.le_refl _, Nat.le_refl _, Or.inl rfl, rfl, by rw [if_neg (by omega)]⟩
  have g3 : ¬ lg_cmp x 0 < 0 := g3
  rw [lg_cmp_lt, Int64.lt_iff_toInt_lt, e0] at g3
  refine And.intro (fun g4 => ?_) (fun g4 => ?_)
  · have g4 : 0 < lg_cmp x y := g4
    rw [lg_cmp_gt, Int64.lt_iff_toInt_lt] at g4
    exact ⟨Nat.le_refl _, Nat.le_refl _, Or.inl rfl, rfl, by rw [if_neg (by omega)]⟩
  · have g4 : ¬ 0 < lg_cmp x y := g4
    rw [lg_cmp_gt, Int64.lt_iff_toInt_lt] at g4
    exact ⟨Nat.le_refl _, Nat.le_refl _, Or.inr rfl, rfl, by rw [if_pos (by omega)]⟩
theorem c_Sh_inUnits {m : jm_M} {a b : Nat} (hb : 1 ≤ b ∧ b ≤ 12) (ha : a ≤ b) : jm_C l D ca n_Sh_inUnits [.long (lN a), .long (lN b)] m 0 0 (fun v m' => m' = m ∧ v = some (.int (nI (a * (27720 / b))))) := by
  refine jm_C_of (cd := cd_Sh_inUnits) (ini := false) (by decide +kernel) ok_Sh_inUnits (fun h => by cases h) (Nat.le_of_ble_eq_true rfl) ?_
  intro X hX
  refine jm_run hX [] 30 ?_
  refine And.intro (fun _ => ?_) (fun g => ?_)
  · refine And.intro ?_ ?_
    · show ¬ lN b = lN 0
      rw [pk_lEQ (by omega) (by decide)]; omega
    refine ⟨Nat.le_refl _, Nat.le_refl _, trivial, rfl, ?_⟩
    show some (Value.int (lN a * (lN 27720 / lN b)).toInt32) = _
    rw [pk_lDiv (by decide) (by omega) (by omega), lN_mul, lN_i]
  · have g : ¬ 0 ≤ lg_cmp (lN b) (lN 1) := g
    rw [lg_cmp_ge, pk_lLE (by decide) (by omega)] at g
    omega
theorem c_Sh_kept {m : jm_M} {ad : Nat → Nat} {c : CSt} (h : CI m ad c) : jm_C l D ca n_Sh_kept [.ref (ad 0)] m 0 0 (fun v m' => m' = m ∧ v = some (.int (bI c.2.2.2.2.1))) := by
  refine jm_C_of (cd := cd_Sh_kept) (ini := false) (by decide +kernel) ok_Sh_kept (fun h => by cases h) (Nat.le_of_ble_eq_true rfl) ?_
  intro X hX
  have o0 : jm_ok m (ad 0) 5 := h.1.ok 0 (Or.inl (by decide))
  refine jm_run hX [] 10 ?_
  refine And.intro o0 ?_
  have e : m.2.2.1 (ad 0) 3 = bI c.2.2.2.2.1 := h.2.2.2.2.2.2.2.1
  refine ⟨Nat.le_refl _, Nat.le_refl _, ?_, rfl, by rw [e]⟩
  show m.2.2.1 (ad 0) 3 = 0 ∨ m.2.2.1 (ad 0) 3 = 1
  rw [e]
  cases c.2.2.2.2.1
  · exact Or.inl rfl
  · exact Or.inr rfl
end SH1
