/-! The reference's line: ((kinds, machines, ports), outs, joins, shares' above and below, crushTo, crushAbove, crushBelow, feeds); shares at 2 (3 machine + kind) + out, the rest at 3 machine + kind. -/
abbrev RD : Type := (Nat × Nat × Nat) × (Nat → Nat) × (Nat → Int32) × (Nat → Nat) × (Nat → Nat) × (Nat → Nat) × (Nat → Nat) × (Nat → Nat) × (Nat → Nat)
abbrev RD.K (R : RD) : Nat := R.1.1
abbrev RD.M (R : RD) : Nat := R.1.2.1
abbrev RD.P (R : RD) : Nat := R.1.2.2
abbrev RD.O (R : RD) : Nat → Nat := R.2.1
abbrev RD.J (R : RD) : Nat → Int32 := R.2.2.1
abbrev RD.A (R : RD) : Nat → Nat := R.2.2.2.1
abbrev RD.B (R : RD) : Nat → Nat := R.2.2.2.2.1
abbrev RD.T (R : RD) : Nat → Nat := R.2.2.2.2.2.1
abbrev RD.C (R : RD) : Nat → Nat := R.2.2.2.2.2.2.1
abbrev RD.E (R : RD) : Nat → Nat := R.2.2.2.2.2.2.2.1
abbrev RD.F (R : RD) : Nat → Nat := R.2.2.2.2.2.2.2.2
def ROK (R : RD) : Prop :=
  (1 ≤ R.K ∧ R.K ≤ 3) ∧ R.M ≤ 3 ∧ R.P ≤ 3 ∧ (∀ j, j < R.M → 1 ≤ R.O j ∧ R.O j ≤ 3) ∧ (∀ i, i < 9 → jOK R.M R.P (R.J i)) ∧ (∀ q, q < 18 → (1 ≤ R.B q ∧ R.B q ≤ 12) ∧ R.A q ≤ R.B q) ∧
  (∀ r, r < 9 → R.A (2 * r) * R.B (2 * r + 1) + R.A (2 * r + 1) * R.B (2 * r) ≤ R.B (2 * r) * R.B (2 * r + 1)) ∧ (∀ r, r < 9 → R.T r < R.K ∧ (1 ≤ R.E r ∧ R.E r ≤ 12) ∧ R.C r ≤ R.E r) ∧ (∀ j k, j < 3 → k < 3 → 0 < R.C (3 * j + k) → R.T (3 * j + k) ≠ k) ∧ (∀ r, r < 9 → R.F r ≤ 1000000)
/-- a share in the units of the class -/
def rU (a b : Nat) : Nat := a * (27720 / b)
theorem u_b {b : Nat} (h : 1 ≤ b ∧ b ≤ 12) : b * (27720 / b) = 27720 := by
  have : ∀ b, b < 13 → 1 ≤ b → b * (27720 / b) = 27720 := by decide
  exact this b (by omega) h.1
def rcom (R : RD) (j k : Nat) : Nat := R.B (2 * (3 * j + k)) * R.B (2 * (3 * j + k) + 1)
def rpart (R : RD) (j k o : Nat) : Nat :=
  if o + 1 = R.O j then rcom R j k - (if 2 ≤ R.O j then R.A (2 * (3 * j + k)) * R.B (2 * (3 * j + k) + 1) else 0) - (if 3 ≤ R.O j then R.A (2 * (3 * j + k) + 1) * R.B (2 * (3 * j + k)) else 0)
  else if o = 0 then R.A (2 * (3 * j + k)) * R.B (2 * (3 * j + k) + 1) else R.A (2 * (3 * j + k) + 1) * R.B (2 * (3 * j + k))
def shU (R : RD) (j k o : Nat) : Nat :=
  if o + 1 = R.O j then 27720 - (if 2 ≤ R.O j then rU (R.A (2 * (3 * j + k))) (R.B (2 * (3 * j + k))) else 0) - (if 3 ≤ R.O j then rU (R.A (2 * (3 * j + k) + 1)) (R.B (2 * (3 * j + k) + 1)) else 0)
  else if o = 0 then rU (R.A (2 * (3 * j + k))) (R.B (2 * (3 * j + k))) else rU (R.A (2 * (3 * j + k) + 1)) (R.B (2 * (3 * j + k) + 1))
theorem rp_eq {R : RD} (h : ROK R) {j k : Nat} (hj : j < 3) (hk : k < 3) (o : Nat) : 27720 * rpart R j k o = rcom R j k * shU R j k o := by
  have h0 := (h.2.2.2.2.2.1 (2 * (3 * j + k)) (by omega)).1
  have h1 := (h.2.2.2.2.2.1 (2 * (3 * j + k) + 1) (by omega)).1
  unfold rpart shU rcom rU
  have e0 := u_b h0
  have e1 := u_b h1
  generalize R.B (2 * (3 * j + k)) = b0 at *
  generalize R.B (2 * (3 * j + k) + 1) = b1 at *
  generalize R.A (2 * (3 * j + k)) = a0 at *
  generalize R.A (2 * (3 * j + k) + 1) = a1 at *
  generalize 27720 / b0 = c0 at *
  generalize 27720 / b1 = c1 at *
  have f0 : 27720 * (a0 * b1) = b0 * b1 * (a0 * c0) := by rw [← e0]; grind
  have f1 : 27720 * (a1 * b0) = b0 * b1 * (a1 * c1) := by rw [← e1]; grind
  have g0 : 27720 * (if 2 ≤ R.O j then a0 * b1 else 0) = b0 * b1 * (if 2 ≤ R.O j then a0 * c0 else 0) := by
    by_cases w : 2 ≤ R.O j
    · rw [if_pos w, if_pos w]; exact f0
    · rw [if_neg w, if_neg w, Nat.mul_zero, Nat.mul_zero]
  have g1 : 27720 * (if 3 ≤ R.O j then a1 * b0 else 0) = b0 * b1 * (if 3 ≤ R.O j then a1 * c1 else 0) := by
    by_cases w : 3 ≤ R.O j
    · rw [if_pos w, if_pos w]; exact f1
    · rw [if_neg w, if_neg w, Nat.mul_zero, Nat.mul_zero]
  by_cases w : o + 1 = R.O j
  · rw [if_pos w, if_pos w, Nat.mul_sub, Nat.mul_sub, Nat.mul_sub, Nat.mul_sub, g0, g1, Nat.mul_comm 27720 (b0 * b1)]
  · rw [if_neg w, if_neg w]
    by_cases w2 : o = 0
    · rw [if_pos w2, if_pos w2]; exact f0
    · rw [if_neg w2, if_neg w2]; exact f1
/-- the shares are 1 together -/
theorem sh_le {R : RD} (h : ROK R) {j k : Nat} (hj : j < 3) (hk : k < 3) : rU (R.A (2 * (3 * j + k))) (R.B (2 * (3 * j + k))) + rU (R.A (2 * (3 * j + k) + 1)) (R.B (2 * (3 * j + k) + 1)) ≤ 27720 := by
  have h0 := (h.2.2.2.2.2.1 (2 * (3 * j + k)) (by omega)).1
  have h1 := (h.2.2.2.2.2.1 (2 * (3 * j + k) + 1) (by omega)).1
  have hs := h.2.2.2.2.2.2.1 (3 * j + k) (by omega)
  unfold rU
  have e0 := u_b h0
  have e1 := u_b h1
  generalize R.B (2 * (3 * j + k)) = b0 at *
  generalize R.B (2 * (3 * j + k) + 1) = b1 at *
  generalize R.A (2 * (3 * j + k)) = a0 at *
  generalize R.A (2 * (3 * j + k) + 1) = a1 at *
  generalize 27720 / b0 = c0 at *
  generalize 27720 / b1 = c1 at *
  have f0 : b0 * b1 * (a0 * c0) = 27720 * (a0 * b1) := by rw [← e0]; grind
  have f1 : b0 * b1 * (a1 * c1) = 27720 * (a1 * b0) := by rw [← e1]; grind
  have hp : 0 < b0 * b1 := Nat.mul_pos (by omega) (by omega)
  refine Nat.le_of_mul_le_mul_left ?_ hp
  rw [Nat.mul_add, f0, f1, ← Nat.mul_add, Nat.mul_comm (b0 * b1)]
  exact Nat.mul_le_mul_left _ hs
theorem sh_sum {R : RD} (h : ROK R) {j k : Nat} (hj : j < R.M) (hk : k < 3) : ds_nS (fun o => shU R j k o) (R.O j) = 27720 := by
  have hM := h.2.1
  have ho := h.2.2.2.1 j hj
  have hs := sh_le h (j := j) (k := k) (by omega) hk
  unfold shU
  generalize rU (R.A (2 * (3 * j + k))) (R.B (2 * (3 * j + k))) = u0 at *
  generalize rU (R.A (2 * (3 * j + k) + 1)) (R.B (2 * (3 * j + k) + 1)) = u1 at *
  rcases (show R.O j = 1 ∨ R.O j = 2 ∨ R.O j = 3 by omega) with e | e | e <;> rw [e] <;> simp [ds_nS] <;> omega
/-- what of a gram of kind k goes out at o as kind k2: class, in units twice -/
def cU (d : LD) (j k o k2 : Nat) : Nat := (if k2 = k then (27720 - d.2.2.2.2.1 (j * d.1.1 + k)) * d.2.2.2.1 (3 * (j * d.1.1 + k) + o) else 0) + (if k2 = d.2.2.2.2.2.1 (j * d.1.1 + k) then d.2.2.2.2.1 (j * d.1.1 + k) * d.2.2.2.1 (3 * (j * d.1.1 + k2) + o) else 0)
/-- and reference -/
def roth (R : RD) (j k : Nat) : Nat := if 0 < R.C (3 * j + k) then rcom R j (R.T (3 * j + k)) else 1
def rwh (R : RD) (j k : Nat) : Nat := R.E (3 * j + k) * rcom R j k * roth R j k
def wy (R : RD) (j k o k2 : Nat) : Nat := (if k2 = k then (R.E (3 * j + k) - R.C (3 * j + k)) * roth R j k * rpart R j k o else 0) + (if 0 < R.C (3 * j + k) ∧ k2 = R.T (3 * j + k) then R.C (3 * j + k) * rcom R j k * rpart R j k2 o else 0)
/-- class and reference were told the same -/
def REL (d : LD) (R : RD) : Prop :=
  d.1 = R.1 ∧ (∀ j, j < R.M → d.2.1 j = R.O j) ∧ (∀ i, i < 9 → d.2.2.1 i = R.J i) ∧ (∀ j k o, j < R.M → k < R.K → o < R.O j → d.2.2.2.1 (3 * (j * R.K + k) + o) = shU R j k o) ∧
  (∀ j k, j < R.M → k < R.K → d.2.2.2.2.1 (j * R.K + k) = rU (R.C (3 * j + k)) (R.E (3 * j + k)) ∧ d.2.2.2.2.2.1 (j * R.K + k) = R.T (3 * j + k) ∧ d.2.2.2.2.2.2 (j * R.K + k) = R.F (3 * j + k)) ∧
  (∀ r, R.M * R.K ≤ r → r < 9 → (∀ o, o < 3 → d.2.2.2.1 (3 * r + o) = 0) ∧ d.2.2.2.2.1 r = 0 ∧ d.2.2.2.2.2.1 r = 0 ∧ d.2.2.2.2.2.2 r = 0) ∧
  (∀ r, 3 * R.M ≤ r → r < 9 → (R.A (2 * r) = 0 ∧ R.A (2 * r + 1) = 0 ∧ R.B (2 * r) = 1 ∧ R.B (2 * r + 1) = 1) ∧ R.C r = 0 ∧ R.E r = 1 ∧ R.T r = 0 ∧ R.F r = 0) ∧
  (∀ j k, j < R.M → k < 3 → (R.O j = 1 → R.A (2 * (3 * j + k)) = 0) ∧ (R.O j ≤ 2 → R.A (2 * (3 * j + k) + 1) = 0)) ∧ (∀ j k, j < 3 → R.K ≤ k → k < 3 → R.F (3 * j + k) = 0)
theorem wy_eq {d : LD} {R : RD} (h : ROK R) (e : REL d R) {j k o k2 : Nat} (hj : j < R.M) (hk : k < R.K) (ho : o < R.O j) (hk2 : k2 < R.K) : 768398400 * wy R j k o k2 = rwh R j k * cU d j k o k2 := by
  obtain ⟨e1, e2, e3, e4, e5, -, -, -⟩ := e
  have eK : d.1.1 = R.K := by rw [e1]
  have hM := h.2.1
  have hK := h.1
  have hc := h.2.2.2.2.2.2.2.1 (3 * j + k) (by omega)
  have p1 := rp_eq h (j := j) (k := k) (by omega) (by omega) o
  have p2 := rp_eq h (j := j) (k := k2) (by omega) (by omega) o
  have s1 := e4 j k o hj hk ho
  have s2 := e4 j k2 o hj hk2 ho
  obtain ⟨c1, c2, -⟩ := e5 j k hj hk
  have eb := u_b hc.2.1
  unfold cU wy rwh
  rw [eK, s1, s2, c1, c2]
  have hoth : 0 < R.C (3 * j + k) → k2 = R.T (3 * j + k) → roth R j k = rcom R j k2 := fun q q2 => by
    unfold roth
    rw [if_pos q, ← q2]
  generalize hcv : R.C (3 * j + k) = cv at *
  generalize R.E (3 * j + k) = ev at *
  generalize R.T (3 * j + k) = tv at *
  unfold rU
  have d1 : 27720 - cv * (27720 / ev) = (ev - cv) * (27720 / ev) := by rw [Nat.sub_mul, eb]
  rw [d1]
  generalize 27720 / ev = c0 at *
  generalize shU R j k o = sh1 at *
  generalize shU R j k2 o = sh2 at *
  generalize rpart R j k o = q1 at *
  generalize rpart R j k2 o = q2 at *
  generalize rcom R j k = w1 at *
  generalize rcom R j k2 = w2 at *
  generalize roth R j k = w at *
  have a1 : 768398400 * (if k2 = k then (ev - cv) * w * q1 else 0) = ev * w1 * w * (if k2 = k then (ev - cv) * c0 * sh1 else 0) := by
    by_cases q : k2 = k
    · rw [if_pos q, if_pos q]
      generalize ev - cv = x
      rw [show 768398400 * (x * w * q1) = 27720 * (x * w * (27720 * q1)) by grind, p1, ← eb]
      grind
    · rw [if_neg q, if_neg q, Nat.mul_zero, Nat.mul_zero]
  have a2 : 768398400 * (if 0 < cv ∧ k2 = tv then cv * w1 * q2 else 0) = ev * w1 * w * (if k2 = tv then cv * c0 * sh2 else 0) := by
    by_cases q : k2 = tv
    · by_cases qc : 0 < cv
      · rw [if_pos ⟨qc, q⟩, if_pos q, hoth qc q]
        rw [show 768398400 * (cv * w1 * q2) = 27720 * (cv * w1 * (27720 * q2)) by grind, p2, ← eb]
        grind
      · rw [if_neg (fun z => qc z.1), if_pos q, show cv = 0 by omega]; grind
    · rw [if_neg (fun z => q z.2), if_neg q, Nat.mul_zero, Nat.mul_zero]
  rw [Nat.mul_add, Nat.mul_add, a1, a2]
