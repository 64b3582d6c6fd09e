/-! The reference's numbers: the determinant, Cramer's numbers, amounts; for a line that stands. -/
def STD (R : RD) : Prop := ROK R ∧ ∃ d F, LOK d ∧ REL d R ∧ RA d F (d.1.2.1 * d.1.1) ∧ FG (d.1.2.1 * d.1.1) F
theorem STD.good {R : RD} (h : STD R) (f : Nat → Nat → Nat) : mx_Good (rBf R f) 9 := by
  obtain ⟨hR, d, F, hO, e, hA, hG⟩ := h
  exact rB_good hO hR e hA hG f
def rfd (R : RD) : Nat → Nat → Nat := fun i _ => R.F i
def run1 (i c : Nat) : Nat := if i + 9 = c then 1 else 0
def rDT (R : RD) : Nat := (ds_d (rBf R (rfd R)) 9).toNat
def rZ (R : RD) (f : Nat → Nat → Nat) (c q : Nat) : Nat := (ds_C (rBf R f) 9 q c).toNat
def rAm (R : RD) (w : Nat → Nat) : Nat := ds_nS (fun q => w q * rZ R (rfd R) 9 q) 9
def rWo (R : RD) (w : Nat → Nat) (nd : Nat) : Nat := ds_nS (fun q => w q * rZ R run1 (9 + nd) q) 9
theorem d_same (R : RD) (f f' : Nat → Nat → Nat) : ds_d (rBf R f) 9 = ds_d (rBf R f') 9 := ds_D_ex _ _ 9 _ _ fun r t _ ht => by
  show rBf R f r t = rBf R f' r t
  unfold rBf
  rw [if_pos ht, if_pos ht]
theorem C_same {a a' : Nat → Nat → Int} {n j c : Nat} (hj : j < n) (h : ∀ i q, i < n → q < n → a i q = a' i q) (hc : ∀ i, i < n → a i c = a' i c) : ds_C a n j c = ds_C a' n j c := by
  unfold ds_C
  congr 1
  refine ds_D_ex _ _ n _ _ fun r t hr ht => ?_
  unfold ds_E ds_J
  by_cases w : t < j
  · rw [if_pos w, if_pos (by omega)]; exact h r t hr ht
  · rw [if_neg w]
    by_cases w2 : t + 1 < n
    · rw [if_pos w2]; exact h r _ hr w2
    · rw [if_neg w2]; exact hc r hr
theorem STD.d {R : RD} (h : STD R) (f : Nat → Nat → Nat) : (rDT R : Int) = ds_d (rBf R f) 9 ∧ 0 < rDT R := by
  have hI := mx_Inv_all (h.good (rfd R)) 9 (Nat.le_refl _)
  have hp := hI.1 9 (Nat.le_refl _)
  unfold rDT
  rw [d_same R f (rfd R)]
  omega
theorem STD.z {R : RD} (h : STD R) (f : Nat → Nat → Nat) {c q : Nat} (hq : q < 9) (hc : 9 ≤ c) : (rZ R f c q : Int) = ds_C (rBf R f) 9 q c := by
  have hI := mx_Rhs (j := c) (h.good f) (fun i hi => by unfold rBf; rw [if_neg (by omega)]; omega) 9 (Nat.le_refl _)
  have := hI.2 q hq
  unfold rZ
  omega
theorem rB_cs {R : RD} (h : STD R) (f : Nat → Nat → Nat) {q : Nat} (hq : q < 9) : bz_cs (rBf R f) 9 q ≤ 497664 := by
  obtain ⟨hR, d, F, hO, e, hA, hG⟩ := h
  have hM := hR.2.1
  have hK := hR.1
  unfold bz_cs
  have e1 : ds_nS (fun i => (rBf R f i q).natAbs) 9 ≤ ds_nS (fun i => (if i = q then 248832 else 0) + (if inN R q then rtb R (q / 3) (q % 3) (i / 3) (i % 3) else 0)) 9 := ds_nS_mono fun i hi => by
    unfold rBf rB
    rw [if_pos hq]
    by_cases w : inN R q
    · rw [if_pos w, if_pos w]
      have := rwh_le hR (j := q / 3) (k := q % 3) (by omega) (by omega)
      by_cases w2 : i = q
      · rw [if_pos w2, if_pos w2]; omega
      · rw [if_neg w2, if_neg w2]; omega
    · rw [if_neg w, if_neg w]
      by_cases w2 : i = q
      · rw [if_pos w2, if_pos w2]; decide
      · rw [if_neg w2, if_neg w2]; decide
  refine Nat.le_trans e1 ?_
  rw [ds_nS_add]
  have e2 := ds_nS_ite 248832 q 9
  have e3 : ds_nS (fun i => if inN R q then rtb R (q / 3) (q % 3) (i / 3) (i % 3) else 0) 9 ≤ 248832 := by
    by_cases w : inN R q
    · have e4 : ds_nS (fun i => if inN R q then rtb R (q / 3) (q % 3) (i / 3) (i % 3) else 0) 9 = ds_nS (fun i => rtb R (q / 3) (q % 3) (i / 3) (i % 3)) 9 := ds_nS_congr fun i _ => if_pos w
      rw [e4]
      refine Nat.le_trans ?_ (rwh_le hR (j := q / 3) (k := q % 3) (by omega) (by omega))
      have hsum := wy_sum hO hR e w.1 w.2
      rw [← hsum]
      -- swap the sums
      have e5 : ds_nS (fun i => rtb R (q / 3) (q % 3) (i / 3) (i % 3)) 9 = ds_nS (fun o => ds_nS (fun i => if (R.J (3 * (q / 3) + o)).toInt = ((i / 3 : Nat) : Int) then wy R (q / 3) (q % 3) o (i % 3) else 0) 9) (R.O (q / 3)) := by
        unfold rtb
        exact ds_nS_swap _ _ _
      rw [e5]
      refine ds_nS_mono fun o ho => ?_
      have hz : ∀ k2, R.K ≤ k2 → wy R (q / 3) (q % 3) o k2 = 0 := fun k2 h2 => wy_hi hR (by omega) w.2 h2
      generalize (R.J (3 * (q / 3) + o)).toInt = J0
      generalize hwf : wy R (q / 3) (q % 3) o = wf at *
      have e6 : ds_nS wf R.K = wf 0 + wf 1 + wf 2 := by
        rcases (show R.K = 1 ∨ R.K = 2 ∨ R.K = 3 by omega) with z | z | z <;> rw [z] <;> simp only [ds_nS] <;> (have z1 := hz 1; have z2 := hz 2; omega)
      have e7 : ds_nS (fun i => if J0 = ((i / 3 : Nat) : Int) then wf (i % 3) else 0) 9 ≤ wf 0 + wf 1 + wf 2 := by
        simp only [ds_nS]
        by_cases c0 : J0 = 0
        · subst c0; simp
        · by_cases c1 : J0 = 1
          · subst c1; simp
          · by_cases c2 : J0 = 2
            · subst c2; simp
            · simp [c0, c1, c2]
      show _ ≤ ds_nS wf R.K
      omega
    · have e4 : ds_nS (fun i => if inN R q then rtb R (q / 3) (q % 3) (i / 3) (i % 3) else 0) 9 ≤ 9 * 0 := ds_nS_bd fun i _ => by rw [if_neg w]; exact Nat.le_refl 0
      omega
  omega
theorem STD.dle {R : RD} (h : STD R) : rDT R ≤ 497664 ^ 9 := by
  have := bz_d_le (a := rBf R (rfd R)) (n := 9) (k := 9) (c := 497664) (fun j hj => rB_cs h (rfd R) hj) (Nat.le_refl _)
  unfold rDT
  omega
theorem STD.zle {R : RD} (h : STD R) (f : Nat → Nat → Nat) {c q B : Nat} (hq : q < 9) (hc : 9 ≤ c) (hB : ds_nS (fun i => f i c) 9 ≤ B) : rZ R f c q ≤ 497664 ^ 8 * B := by
  have := bz_C_le (a := rBf R f) (n := 9) (k := 9) (t := q) (j := c) (c := 497664) (fun j hj => rB_cs h f hj) (Nat.le_refl _) hq
  have e : bz_cs (rBf R f) 9 c = ds_nS (fun i => f i c) 9 := ds_nS_congr fun i _ => by
    unfold rBf
    rw [if_neg (by omega)]; exact Int.natAbs_natCast _
  rw [e] at this
  have h2 := Nat.mul_le_mul_left (497664 ^ 8) hB
  unfold rZ
  have h3 : (ds_C (rBf R f) 9 q c).toNat ≤ (ds_C (rBf R f) 9 q c).natAbs := by omega
  exact Nat.le_trans h3 (Nat.le_trans this h2)
