/-! The reference's state: (line now, line as solved, spanned, lows, highs, known, kept). -/
abbrev RSt : Type := RD × RD × (Nat → Bool) × (Nat → Nat) × (Nat → Nat) × Bool × Bool
abbrev RSt.ln (A : RSt) (f : Nat) : RD := if f = 0 then A.1 else A.2.1
abbrev CCR (m : jm_M) (rd : Nat → Nat) (R : RD) : Prop := CCH m rd (rWv R) (rTv R)
def MIc (m : jm_M) (rd : Nat → Nat) (A : RSt) (n : Nat) : Prop := ∃ (t : Nat → Nat) (h : Nat), (∀ f, f < 2 → t f ≤ n ∧ m.2.2.1 (rd 33) f = nI (t f)) ∧ h ≤ n ∧ m.2.2.1 (rd 0) 32 = nI h ∧ (m.2.2.1 (rd 0) 31 = -1 ∨ ∃ f, f < 2 ∧ m.2.2.1 (rd 0) 31 = nI f ∧ h ≤ t f ∧ (h = t f → CCR m rd (A.ln f)))
def MI (m : jm_M) (rd : Nat → Nat) (A : RSt) (n : Nat) : Prop :=
  MST m rd ∧ (∀ f, f < 2 → MV m rd f (A.ln f) ∧ ROK (A.ln f)) ∧ lrow (m.2.2.2.1 (rd 16)) prm 8 ∧ (∃ V, bgv (m.2.2.2.1 (rd 25)) V) ∧
  (∀ j, j < 3 → m.2.2.1 (rd 11) j = bI (A.2.2.1 j) ∧ m.2.2.2.1 (rd 12) j = lN (A.2.2.2.1 j) ∧ m.2.2.2.1 (rd 13) j = lN (A.2.2.2.2.1 j) ∧ A.2.2.2.1 j ≤ 1000000000 ∧ A.2.2.2.2.1 j ≤ 1000000000) ∧
  m.2.2.1 (rd 0) 14 = bI A.2.2.2.2.2.1 ∧ m.2.2.1 (rd 0) 15 = bI A.2.2.2.2.2.2 ∧ MIc m rd A n
theorem CCH.mv {m m' : jm_M} {rd Wv Tb : Nat → Nat} (h : CCH m rd Wv Tb) (h3 : m'.2.2.2.1 (rd 23) = m.2.2.2.1 (rd 23)) (h4 : m'.2.2.2.1 (rd 24) = m.2.2.2.1 (rd 24)) : CCH m' rd Wv Tb := by
  unfold CCH
  rw [h3, h4]
  exact h
theorem MV.mv {m m' : jm_M} {rd : Nat → Nat} {f : Nat} {R : RD} (h : MV m rd f R) (h0 : m'.2.2.1 (rd 0) 0 = m.2.2.1 (rd 0) 0) (h1 : ∀ k, 1 ≤ k → k ≤ 10 → m'.2.2.1 (rd k) = m.2.2.1 (rd k)) : MV m' rd f R := by
  unfold MV
  rw [h0, h1 1 (by decide) (by decide), h1 2 (by decide) (by decide), h1 3 (by decide) (by decide), h1 4 (by decide) (by decide), h1 5 (by decide) (by decide), h1 6 (by decide) (by decide), h1 7 (by decide) (by decide), h1 8 (by decide) (by decide), h1 9 (by decide) (by decide), h1 10 (by decide) (by decide)]
  exact h
/-- what changes only rows of work leaves the state -/
theorem MI.mv {m m' : jm_M} {rd : Nat → Nat} {A : RSt} {n : Nat} {p : Nat → Prop} (h : MI m rd A n) (hF : FM rd p m m') (hp : ∀ k, p k → k = 0 ∨ (17 ≤ k ∧ k ≤ 22) ∨ (25 ≤ k ∧ k ≤ 30)) (h0 : ∀ j, j ≠ 28 → j ≠ 29 → m'.2.2.1 (rd 0) j = m.2.2.1 (rd 0) j) (hb : ∃ V, bgv (m'.2.2.2.1 (rd 25)) V) : MI m' rd A n := by
  obtain ⟨S, h1, h2, -, h4, h5, h6, t, hh, c1, c2, c3, c4⟩ := h
  have at' : ∀ k, mkin k → (1 ≤ k ∧ k ≤ 16) ∨ k = 23 ∨ k = 24 ∨ 31 ≤ k → m'.2.2.1 (rd k) = m.2.2.1 (rd k) ∧ m'.2.2.2.1 (rd k) = m.2.2.2.1 (rd k) := fun k hk hr => hF.at S hk (fun q => by have := hp k q; omega)
  have k11 : mkin 11 := Or.inl (by decide)
  have k12 : mkin 12 := Or.inl (by decide)
  have k13 : mkin 13 := Or.inl (by decide)
  have k16 : mkin 16 := Or.inr (Or.inl (by decide))
  have k23 : mkin 23 := Or.inr (Or.inl (by decide))
  have k24 : mkin 24 := Or.inr (Or.inl (by decide))
  have k33 : mkin 33 := Or.inr (Or.inr (Or.inr rfl))
  refine ⟨hF.S S, fun f hf => ⟨(h1 f hf).1.mv (h0 0 (by decide) (by decide)) (fun k q1 q2 => (at' k (Or.inl (by omega)) (by omega)).1), (h1 f hf).2⟩, ?_, hb, fun j hj => ?_, ?_, ?_, t, hh, fun f hf => ?_, c2, ?_, ?_⟩
  · rw [(at' 16 k16 (by omega)).2]; exact h2
  · rw [(at' 11 k11 (by omega)).1, (at' 12 k12 (by omega)).2, (at' 13 k13 (by omega)).2]; exact h4 j hj
  · rw [h0 14 (by decide) (by decide)]; exact h5
  · rw [h0 15 (by decide) (by decide)]; exact h6
  · rw [(at' 33 k33 (by omega)).1]; exact c1 f hf
  · rw [h0 32 (by decide) (by decide)]; exact c3
  · rw [h0 31 (by decide) (by decide)]
    rcases c4 with q | ⟨f, q1, q2, q3, q4⟩
    · exact Or.inl q
    · exact Or.inr ⟨f, q1, q2, q3, fun z => (q4 z).mv (at' 23 k23 (by omega)).2 (at' 24 k24 (by omega)).2⟩
theorem rWv_le {R : RD} (h : ROK R) {q : Nat} (hq : q < 9) : rWv R q < 2 ^ 20 := by
  have hM := h.2.1
  have hK := h.1
  unfold rWv
  split
  · next w => have := rwh_le h (j := q / 3) (k := q % 3) (by omega) (by omega); omega
  · decide
theorem rTv_le {R : RD} (h : ROK R) {t : Nat} (ht : t < 81) : rTv R t < 2 ^ 22 := by
  have hM := h.2.1
  unfold rTv
  split
  · next w =>
    have hou := h.2.2.2.1 _ w.1
    unfold rtb
    have := ds_nS_bd (f := fun o => if (R.J (3 * (t % 9 / 3) + o)).toInt = ((t / 27 : Nat) : Int) then wy R (t % 9 / 3) (t % 9 % 3) o (t / 9 % 3) else 0) (c := 500000) (n := R.O (t % 9 / 3)) (fun o ho => by
      split
      · exact wy_le h (by omega) w.2
      · exact Nat.zero_le _)
    have h2 : R.O (t % 9 / 3) * 500000 ≤ 3 * 500000 := Nat.mul_le_mul_right _ hou.2
    omega
  · decide
section RB18
variable {l : Launch} {D : va_G} {ca : Nat → ClassId}
abbrev FMa (rd : Nat → Nat) (m m' : jm_M) : Prop := FM rd (fun _ => True) m m'
theorem FM.a {rd : Nat → Nat} {p : Nat → Prop} {m m' : jm_M} (h : FM rd p m m') : FMa rd m m' := h.mo (fun _ _ => trivial)
/-- what stands after prepare -/
def PRQ (m : jm_M) (rd : Nat → Nat) (A : RSt) (n f : Nat) (m' : jm_M) : Prop := FMa rd m m' ∧ MI m' rd A n ∧ LAY m' rd (A.ln f) ∧ CCR m' rd (A.ln f) ∧ (∃ V, bgv (m'.2.2.2.1 (rd 25)) V ∧ V 1 = rDT (A.ln f)) ∧ lrow (m'.2.2.2.1 (rd 30)) (fun _ => 0) 9
theorem c_Mo_prepare {m0 : jm_M} {rd : Nat → Nat} {A : RSt} {n f : Nat} (h : MI m0 rd A n) (hn : n < 2 ^ 31) (hf : f < 2) (hS : STD (A.ln f)) : jm_C l D ca n_Mo_prepare [.ref (rd 0), .int (nI f)] m0 0 0 (fun v m' => v = none ∧ PRQ m0 rd A n f m') := by
  refine jm_C_of (cd := cd_Mo_prepare) (ini := false) (by decide +kernel) ok_Mo_prepare (fun h => by cases h) (Nat.le_of_ble_eq_true rfl) ?_
  intro X hX
  have S0 := h.1
  have o0 : ∀ {m : jm_M}, MST m rd → jm_ok m (rd 0) 6 := fun S => S.ok (Or.inl (by decide))
  have k0 : mkin 0 := Or.inl (by decide)
  have k33 : mkin 33 := Or.inr (Or.inr (Or.inr rfl))
  have k25 : mkin 25 := Or.inr (Or.inl (by decide))
  have k30 : mkin 30 := Or.inr (Or.inr (Or.inl rfl))
  have hR := (h.2.1 f hf).2
  -- from 45 on
  have k45 : ∀ m, FMa rd m0 m → MI m rd A n → LAY m rd (A.ln f) → CCR m rd (A.ln f) → X 45 [(0, .ref (rd 0)), (1, .int (nI f))] [] m 0 0 := fun m hFa hI hL hC => by
    have S := hI.1
    obtain ⟨V, hV⟩ := hI.2.2.2.1
    have kg := c_Mo_gatherOver (l := l) (D := D) (ca := ca) S hI.2.2.1 hC hV (n := 1) (Xv := rDT (A.ln f)) (by decide) hS.ov (Nat.lt_trans hS.dlt prm_P)
    refine jm_run hX [] 20 ?_
    refine And.intro (o0 S) (And.intro (Nat.le_of_ble_eq_true rfl) (And.intro (Nat.le_of_ble_eq_true rfl) ⟨0, 0, _, Nat.le_refl _, Nat.le_refl _, kg, fun v m1 hq => ?_⟩))
    obtain ⟨rfl, hF1, hb1⟩ := hq
    have S1 := hF1.S S
    have hI1 : MI m1 rd A n := hI.mv hF1 (fun k w => by omega) (fun j _ _ => by rw [(hF1.at S k0 (by decide)).1]) ⟨_, hb1⟩
    have kc := c_Mo_clearWeights (l := l) (D := D) (ca := ca) S1
    refine And.intro (o0 S1) (And.intro (Nat.le_of_ble_eq_true rfl) (And.intro (Nat.le_of_ble_eq_true rfl) ⟨0, 0, _, Nat.le_refl _, Nat.le_refl _, kc, fun v m2 hq => ?_⟩))
    obtain ⟨rfl, em2⟩ := hq
    have hF2 : FM rd p30 m1 m2 := by rw [em2]; exact FM.uJA k30 rfl
    have g25 : m2.2.2.2.1 (rd 25) = m1.2.2.2.1 (rd 25) := (hF2.at S1 k25 (by decide)).2
    have hI2 : MI m2 rd A n := hI1.mv hF2 (fun k w => by have : k = 30 := w; omega) (fun j _ _ => by rw [(hF2.at S1 k0 (by decide)).1]) ⟨_, by rw [g25]; exact hb1⟩
    refine ⟨Nat.le_refl _, Nat.le_refl _, trivial, rfl, (hFa.tr hF1.a).tr hF2.a, hI2, ?_, ?_, ⟨_, by rw [g25]; exact hb1, va_up_self _ _ _⟩, ?_⟩
    · exact (hL.fm S hF1 (fun k w w2 => by show ¬ (k = 25 ∨ k = 26 ∨ k = 27); omega)).fm S1 hF2 (fun k w w2 => by show ¬ k = 30; omega)
    · refine (hC.mv (hF1.at S (Or.inr (Or.inl (by decide))) (by decide)).2 (hF1.at S (Or.inr (Or.inl (by decide))) (by decide)).2).mv ?_ ?_
      · exact (hF2.at S1 (Or.inr (Or.inl (by decide))) (by decide)).2
      · exact (hF2.at S1 (Or.inr (Or.inl (by decide))) (by decide)).2
    · rw [em2]
      show lrow (va_up m1.2.2.2.1 (rd 30) _ (rd 30)) _ 9
      rw [va_up_self]
      exact lfil_row
  have kl := c_Mo_layOut (l := l) (D := D) (ca := ca) S0 (h.2.1 f hf).1 hf hR
  refine jm_run hX [(26, [0, 1]), (45, [0, 1])] 40 ?_
  refine And.intro (o0 S0) (And.intro (Nat.le_of_ble_eq_true rfl) (And.intro (Nat.le_of_ble_eq_true rfl) ⟨0, 0, _, Nat.le_refl _, Nat.le_refl _, kl, fun v m1 hq => ?_⟩))
  obtain ⟨rfl, hF1, hL1⟩ := hq
  have S1 := hF1.S S0
  have hI1 : MI m1 rd A n := by
    obtain ⟨V, hV⟩ := h.2.2.2.1
    exact h.mv hF1 (fun k w => by omega) (fun j _ _ => by rw [(hF1.at S0 k0 (by decide)).1]) ⟨V, by rw [(hF1.at S0 k25 (by decide)).2]; exact hV⟩
  obtain ⟨t, hh, c1, c2, c3, c4⟩ := hI1.2.2.2.2.2.2.2
  have e33 : m1.2.2.1 (rd 33) (nI f).toNatClampNeg = nI (t f) := by rw [nI_c (by omega)]; exact (c1 f hf).2
  have hin33 : vp_in (nI f) (m1.2.1 (rd 33)).2 := vin_of (S1.len k33) (show f < 2 by omega) (by decide)
  -- turn
  have k26 : X 26 [(0, .ref (rd 0)), (1, .int (nI f))] [] m1 0 0 := by
    have kt := c_Mo_turn (l := l) (D := D) (ca := ca) S1 hI1.2.2.1 hL1.1 hL1.2.1 (fun i hi => Nat.lt_trans (rWv_le hR hi) (by decide)) (fun t ht => Nat.lt_trans (rTv_le hR ht) (by decide))
    refine jm_run hX [(45, [0, 1])] 40 ?_
    refine And.intro (o0 S1) (And.intro (Nat.le_of_ble_eq_true rfl) (And.intro (Nat.le_of_ble_eq_true rfl) ⟨0, 0, _, Nat.le_refl _, Nat.le_refl _, kt, fun v m2 hq => ?_⟩))
    obtain ⟨rfl, hF2, hC2⟩ := hq
    have S2 := hF2.S S1
    have hin2 : vp_in (nI f) (m2.2.1 (rd 33)).2 := vin_of (S2.len k33) (show f < 2 by omega) (by decide)
    have e332 : m2.2.2.1 (rd 33) = m1.2.2.1 (rd 33) := (hF2.at S1 k33 (by decide)).1
    have e02 : m2.2.2.1 (rd 0) = m1.2.2.1 (rd 0) := (hF2.at S1 k0 (by decide)).1
    refine And.intro (o0 S2) ?_
    refine And.intro (show jm_ok (uI m2 (rd 0) 31 (nI f)) (rd 0) 6 from o0 S2) ⟨some (rd 33), show (uI m2 (rd 0) 31 (nI f)).2.2.2.2 (rd 0) 33 = _ from S2.2.2 33 k33 (by decide), And.intro (show jm_ok (uI m2 (rd 0) 31 (nI f)) (rd 33) 50 from S2.ok k33) (And.intro hin2 (And.intro (show jm_ok (uI m2 (rd 0) 31 (nI f)) (rd 0) 6 from o0 S2) ?_))⟩
    have em : (uI m2 (rd 0) 31 (nI f)).2.2.1 (rd 33) (nI f).toNatClampNeg = nI (t f) := by
      show va_up m2.2.2.1 (rd 0) _ (rd 33) (nI f).toNatClampNeg = _
      rw [va_up_ne _ _ (S2.ne k33 k0 (by decide)), e332]; exact e33
    have hF3 : FM rd (fun k => k = 0) m2 (uI (uI m2 (rd 0) 31 (nI f)) (rd 0) 32 (nI (t f))) := FM.tr (m2 := uI m2 (rd 0) 31 (nI f)) (FM.uI (p := fun k => k = 0) k0 rfl) (FM.uI (p := fun k => k = 0) k0 rfl)
    have kk := k45 (uI (uI m2 (rd 0) 31 (nI f)) (rd 0) 32 (nI (t f))) ((hF1.a.tr hF2.a).tr hF3.a) ?_ ?_ ?_
    · rw [← em] at kk
      exact kk
    · -- the state with the new cache
      have f0 : ∀ j, j ≠ 31 → j ≠ 32 → (uI (uI m2 (rd 0) 31 (nI f)) (rd 0) 32 (nI (t f))).2.2.1 (rd 0) j = m1.2.2.1 (rd 0) j := fun j q1 q2 => by
        show va_up (va_up m2.2.2.1 (rd 0) (va_up (m2.2.2.1 (rd 0)) 31 (nI f))) (rd 0) (va_up (va_up m2.2.2.1 (rd 0) (va_up (m2.2.2.1 (rd 0)) 31 (nI f)) (rd 0)) 32 (nI (t f))) (rd 0) j = _
        rw [va_up_self, va_up_self, va_up_ne _ _ q2, va_up_ne _ _ q1, e02]
      have ft : ∀ k, mkin k → k ≠ 0 → ¬ pT k → (uI (uI m2 (rd 0) 31 (nI f)) (rd 0) 32 (nI (t f))).2.2.1 (rd k) = m1.2.2.1 (rd k) ∧ (uI (uI m2 (rd 0) 31 (nI f)) (rd 0) 32 (nI (t f))).2.2.2.1 (rd k) = m1.2.2.2.1 (rd k) := fun k hk q1 q2 => by
        have a := hF3.at S2 hk q1
        have b := hF2.at S1 hk q2
        exact ⟨a.1.trans b.1, a.2.trans b.2⟩
      obtain ⟨-, b1, b2, b3, b4, b5, b6, -⟩ := hI1
      refine ⟨hF3.S S2, fun g hg => ⟨(b1 g hg).1.mv (f0 0 (by decide) (by decide)) (fun k q1 q2 => (ft k (Or.inl (by omega)) (by omega) (by show ¬ (20 ≤ k ∧ k ≤ 24); omega)).1), (b1 g hg).2⟩, ?_, ?_, fun j hj => ?_, ?_, ?_, t, t f, fun g hg => ?_, (c1 f hf).1, ?_, Or.inr ⟨f, hf, ?_, Nat.le_refl _, fun _ => ?_⟩⟩
      · rw [(ft 16 (Or.inr (Or.inl (by decide))) (by decide) (by decide)).2]; exact b2
      · rw [(ft 25 k25 (by decide) (by decide)).2]; exact b3
      · rw [(ft 11 (Or.inl (by decide)) (by decide) (by decide)).1, (ft 12 (Or.inl (by decide)) (by decide) (by decide)).2, (ft 13 (Or.inl (by decide)) (by decide) (by decide)).2]; exact b4 j hj
      · rw [f0 14 (by decide) (by decide)]; exact b5
      · rw [f0 15 (by decide) (by decide)]; exact b6
      · rw [(ft 33 k33 (by decide) (by decide)).1]; exact c1 g hg
      · show va_up (va_up m2.2.2.1 (rd 0) _) (rd 0) (va_up (va_up m2.2.2.1 (rd 0) _ (rd 0)) 32 (nI (t f))) (rd 0) 32 = _
        rw [va_up_self, va_up_self]
      · show va_up (va_up m2.2.2.1 (rd 0) (va_up (m2.2.2.1 (rd 0)) 31 (nI f))) (rd 0) (va_up (va_up m2.2.2.1 (rd 0) (va_up (m2.2.2.1 (rd 0)) 31 (nI f)) (rd 0)) 32 (nI (t f))) (rd 0) 31 = _
        rw [va_up_self, va_up_self, va_up_ne _ _ (by decide), va_up_self]
      · exact hC2.mv rfl rfl
    · exact (hL1.fm S1 hF2 (fun k w w2 => by show ¬ (20 ≤ k ∧ k ≤ 24); omega)).fm S2 hF3 (fun k w w2 => by show ¬ k = 0; omega)
    · exact hC2.mv rfl rfl
  refine And.intro (o0 S1) ?_
  refine And.intro (fun g => ?_) (fun g => ?_)
  · have g : m1.2.2.1 (rd 0) 31 = nI f := g
    refine And.intro (o0 S1) (And.intro (o0 S1) ⟨some (rd 33), S1.2.2 33 k33 (by decide), And.intro (S1.ok k33) (And.intro hin33 ?_)⟩)
    refine And.intro (fun g2 => ?_) (fun g2 => ?_)
    · have g2 : m1.2.2.1 (rd 0) 32 = m1.2.2.1 (rd 33) (nI f).toNatClampNeg := g2
      rw [c3, e33, nI_eq (by omega) (by have := (c1 f hf).1; omega)] at g2
      refine k45 m1 hF1.a hI1 hL1 ?_
      rcases c4 with q | ⟨f', q1, q2, q3, q4⟩
      · rw [g] at q; exact absurd q (nI_ne_m1 (by omega))
      · rw [g, nI_eq (by omega) (by omega)] at q2
        subst q2
        exact q4 g2
    · exact k26
  · exact k26
end RB18
