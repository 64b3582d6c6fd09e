/-! The reference's nine rows and columns beside the class's. -/
def rtb (R : RD) (j k i k2 : Nat) : Nat := ds_nS (fun o => if (R.J (3 * j + o)).toInt = (i : Int) then wy R j k o k2 else 0) (R.O j)
def rpt (R : RD) (j k p k2 : Nat) : Nat := ds_nS (fun o => if (R.J (3 * j + o)).toInt = -2 - (p : Int) then wy R j k o k2 else 0) (R.O j)
def rps (R : RD) (j k k2 : Nat) : Nat := ds_nS (fun o => wy R j k o k2) (R.O j)
theorem wy_hi {R : RD} (h : ROK R) {j k o k2 : Nat} (hj : j < 3) (hk : k < R.K) (hk2 : R.K ≤ k2) : wy R j k o k2 = 0 := by
  have := (h.2.2.2.2.2.2.2.1 (3 * j + k) (by have := h.1; omega)).1
  unfold wy
  rw [if_neg (by omega), if_neg (by omega)]
section T6
variable {d : LD} {R : RD} {F : Nat → Nat → Nat}
/-- a class's column divided, beside the reference's -/
theorem f_eq {x w c g y : Nat} {t : Nat} (h1 : 768398400 * x = w * c) (h2 : g * F 15 y = 768398400) (h3 : g * F t y = c) (hg : 0 < g) : x * F 15 y = w * F t y := by
  refine Nat.eq_of_mul_eq_mul_left hg ?_
  rw [← h3] at h1
  calc g * (x * F 15 y) = x * (g * F 15 y) := by grind
    _ = x * 768398400 := by rw [h2]
    _ = w * (g * F t y) := by rw [← h1]; exact Nat.mul_comm _ _
    _ = g * (w * F t y) := by grind
theorem u_sum {R : RD} {d : LD} (h : ROK R) (e : REL d R) {j k k2 : Nat} (hj : j < R.M) (hk : k < R.K) (hk2 : k2 < R.K) (p : Nat → Prop) [DecidablePred p] : 768398400 * ds_nS (fun o => if p o then wy R j k o k2 else 0) (R.O j) = rwh R j k * ds_nS (fun o => if p o then cU d j k o k2 else 0) (R.O j) := by
  rw [← ds_nS_lmul, ← ds_nS_lmul]
  refine ds_nS_congr fun o ho => ?_
  by_cases w : p o
  · rw [if_pos w, if_pos w]; exact wy_eq h e hj hk ho hk2
  · rw [if_neg w, if_neg w, Nat.mul_zero, Nat.mul_zero]
theorem rtb_F (hO : LOK d) (h : ROK R) (e : REL d R) (hA : RA d F (d.1.2.1 * d.1.1)) {j k i k2 : Nat} (hj : j < R.M) (hk : k < R.K) (hi : i < R.M) (hk2 : k2 < R.K) : rtb R j k i k2 * F 15 (j * R.K + k) = rwh R j k * F (17 + (i * R.K + k2)) (j * R.K + k) := by
  have eK : d.1.1 = R.K := by rw [e.1]
  have eM : d.1.2.1 = R.M := by rw [e.1]
  have hr : j * d.1.1 + k < d.1.2.1 * d.1.1 := by
    have := Nat.mul_le_mul_right d.1.1 (show j + 1 ≤ d.1.2.1 by omega)
    rw [Nat.add_mul, Nat.one_mul] at this
    omega
  obtain ⟨g, hg1, hgc, -⟩ := hA j k (by omega) (by omega) hr
  have h1 := u_sum h e hj hk hk2 (fun o => (R.J (3 * j + o)).toInt = (i : Int))
  have h2 := colD_m hO (j := j) (k := k) (i := i) (k2 := k2) (by omega) (by omega) (by omega) (by omega)
  have hou := h.2.2.2.1 j hj
  have hM3 := h.2.1
  have h3 : ds_nS (fun o => if (d.2.2.1 (3 * j + o)).toInt = (i : Int) then cU d j k o k2 else 0) (d.2.1 j) = ds_nS (fun o => if (R.J (3 * j + o)).toInt = (i : Int) then cU d j k o k2 else 0) (R.O j) := by
    rw [e.2.1 j hj]
    exact ds_nS_congr fun o ho => by rw [e.2.2.1 (3 * j + o) (by omega)]
  rw [h3] at h2
  rw [← h2] at h1
  have h15 := hgc 15 (Or.inl rfl)
  rw [colD_15] at h15
  rw [eK] at hgc h15 h1
  have hr9 := row_lt h.1.2 hM3 hi hk2
  exact f_eq (t := 17 + (i * R.K + k2)) h1 h15 (hgc (17 + (i * R.K + k2)) (Or.inr (Or.inl ⟨by omega, by omega⟩))) hg1
theorem rpt_F (hO : LOK d) (h : ROK R) (e : REL d R) (hA : RA d F (d.1.2.1 * d.1.1)) {j k p k2 : Nat} (hj : j < R.M) (hk : k < R.K) (hp : p < R.P) (hk2 : k2 < R.K) : rpt R j k p k2 * F 15 (j * R.K + k) = rwh R j k * F (27 + (p * R.K + k2)) (j * R.K + k) := by
  have eK : d.1.1 = R.K := by rw [e.1]
  have eM : d.1.2.1 = R.M := by rw [e.1]
  have eP : d.1.2.2 = R.P := by rw [e.1]
  have hr : j * d.1.1 + k < d.1.2.1 * d.1.1 := by
    have := Nat.mul_le_mul_right d.1.1 (show j + 1 ≤ d.1.2.1 by omega)
    rw [Nat.add_mul, Nat.one_mul] at this
    omega
  obtain ⟨g, hg1, hgc, -⟩ := hA j k (by omega) (by omega) hr
  have h1 := u_sum h e hj hk hk2 (fun o => (R.J (3 * j + o)).toInt = -2 - (p : Int))
  have h2 := colD_p hO (j := j) (k := k) (p := p) (k2 := k2) (by omega) (by omega) (by omega) (by omega)
  have hou := h.2.2.2.1 j hj
  have hM3 := h.2.1
  have h3 : ds_nS (fun o => if (d.2.2.1 (3 * j + o)).toInt = -2 - (p : Int) then cU d j k o k2 else 0) (d.2.1 j) = ds_nS (fun o => if (R.J (3 * j + o)).toInt = -2 - (p : Int) then cU d j k o k2 else 0) (R.O j) := by
    rw [e.2.1 j hj]
    exact ds_nS_congr fun o ho => by rw [e.2.2.1 (3 * j + o) (by omega)]
  rw [h3] at h2
  rw [← h2] at h1
  have h15 := hgc 15 (Or.inl rfl)
  rw [colD_15] at h15
  rw [eK] at hgc h15 h1
  have hr9 := row_lt h.1.2 h.2.2.1 hp hk2
  exact f_eq (t := 27 + (p * R.K + k2)) h1 h15 (hgc (27 + (p * R.K + k2)) (Or.inr (Or.inr (Or.inl ⟨by omega, by omega⟩)))) hg1
theorem rps_F (hO : LOK d) (h : ROK R) (e : REL d R) (hA : RA d F (d.1.2.1 * d.1.1)) {j k k2 : Nat} (hj : j < R.M) (hk : k < R.K) (hk2 : k2 < R.K) : rps R j k k2 * F 15 (j * R.K + k) = rwh R j k * F (37 + k2) (j * R.K + k) := by
  have eK : d.1.1 = R.K := by rw [e.1]
  have eM : d.1.2.1 = R.M := by rw [e.1]
  have hr : j * d.1.1 + k < d.1.2.1 * d.1.1 := by
    have := Nat.mul_le_mul_right d.1.1 (show j + 1 ≤ d.1.2.1 by omega)
    rw [Nat.add_mul, Nat.one_mul] at this
    omega
  obtain ⟨g, hg1, hgc, -⟩ := hA j k (by omega) (by omega) hr
  have h1 := u_sum h e hj hk hk2 (fun _ => True)
  have hM3 := h.2.1
  have hK3 := h.1
  have hrow := row_lt hO.1.2 hO.2.1 (show j < d.1.2.1 by omega) (show k < d.1.1 by omega)
  have hbe := hO.2.2.2.2.2.2.2.1 _ hrow
  have hou := hO.2.2.2.1 j (by omega)
  have hS := e.shs h
  have h2 : colD d j k (37 + k2) = ds_nS (fun o => if True then cU d j k o k2 else 0) (R.O j) := by
    rw [colD_at]
    have z : C0 (37 + k2) = 0 := if_neg (by omega)
    rw [z, ds_nS_zero (fun o ho => if_neg (by have := tgt_rg hO (j := j) (k := k) (o := o) (by omega) (by omega) (by omega); omega)), ds_nS_zero (fun o ho => if_neg (by have := tgt_rg hO (j := j) (o := o) (by omega) (by omega) hbe; omega))]
    have e5 : ds_nS (fun o => if True then cU d j k o k2 else 0) (R.O j) = (if k2 = k then (27720 - d.2.2.2.2.1 (j * d.1.1 + k)) * 27720 else 0) + (if k2 = d.2.2.2.2.2.1 (j * d.1.1 + k) then d.2.2.2.2.1 (j * d.1.1 + k) * 27720 else 0) := by
      have e6 : ds_nS (fun o => if True then cU d j k o k2 else 0) (R.O j) = ds_nS (fun o => (if k2 = k then 27720 - d.2.2.2.2.1 (j * d.1.1 + k) else 0) * d.2.2.2.1 (3 * (j * d.1.1 + k) + o) + (if k2 = d.2.2.2.2.2.1 (j * d.1.1 + k) then d.2.2.2.2.1 (j * d.1.1 + k) else 0) * d.2.2.2.1 (3 * (j * d.1.1 + d.2.2.2.2.2.1 (j * d.1.1 + k)) + o)) (R.O j) := ds_nS_congr fun o _ => by
        rw [if_pos trivial, cU_split]
        congr 1
        · by_cases w : k2 = k
          · rw [if_pos w, if_pos w]
          · rw [if_neg w, if_neg w, Nat.zero_mul]
        · by_cases w : k2 = d.2.2.2.2.2.1 (j * d.1.1 + k)
          · rw [if_pos w, if_pos w]
          · rw [if_neg w, if_neg w, Nat.zero_mul]
      rw [e6, ds_nS_add, ds_nS_lmul, ds_nS_lmul, ← e.2.1 j hj, hS j k (by omega) (by omega), hS j _ (by omega) hbe]
      congr 1
      · by_cases w : k2 = k
        · rw [if_pos w, if_pos w]
        · rw [if_neg w, if_neg w, Nat.zero_mul]
      · by_cases w : k2 = d.2.2.2.2.2.1 (j * d.1.1 + k)
        · rw [if_pos w, if_pos w]
        · rw [if_neg w, if_neg w, Nat.zero_mul]
    rw [e5, Nat.zero_add, Nat.add_zero]
    congr 1
    · by_cases w : k2 = k
      · rw [if_pos w, if_pos (by omega)]
      · rw [if_neg w, if_neg (by omega)]
    · by_cases w : k2 = d.2.2.2.2.2.1 (j * d.1.1 + k)
      · rw [if_pos w, if_pos (by omega)]
      · rw [if_neg w, if_neg (by omega)]
  rw [← h2] at h1
  have h4 : ds_nS (fun o => if True then wy R j k o k2 else 0) (R.O j) = rps R j k k2 := ds_nS_congr fun o _ => if_pos trivial
  rw [h4] at h1
  have h15 := hgc 15 (Or.inl rfl)
  rw [colD_15] at h15
  rw [eK] at hgc h15
  exact f_eq (t := 37 + k2) h1 h15 (hgc (37 + k2) (Or.inr (Or.inr (Or.inr ⟨by omega, by omega⟩)))) hg1
end T6
/-- the reference's matrix, then right sides -/
def rB (R : RD) (i q : Nat) : Int := if q / 3 < R.M ∧ q % 3 < R.K then (if i = q then (rwh R (q / 3) (q % 3) : Int) else 0) - (rtb R (q / 3) (q % 3) (i / 3) (i % 3) : Int) else if i = q then 1 else 0
def rBf (R : RD) (f : Nat → Nat → Nat) (i q : Nat) : Int := if q < 9 then rB R i q else (f i q : Int)
/-- the class's row as the reference's node -/
def sg (K r : Nat) : Nat := 3 * (r / K) + r % K
theorem sg_n {K M r : Nat} (hK : 1 ≤ K ∧ K ≤ 3) (hr : r < M * K) : sg K r / 3 = r / K ∧ sg K r % 3 = r % K ∧ r / K < M ∧ r % K < K := by
  have h1 : r / K < M := (Nat.div_lt_iff_lt_mul (by omega)).mpr hr
  have h2 := Nat.mod_lt r (show 0 < K by omega)
  unfold sg
  refine ⟨by omega, by omega, h1, h2⟩
theorem sg_r {K r : Nat} : r / K * K + r % K = r := by
  have := Nat.div_add_mod r K
  rw [Nat.mul_comm] at this
  exact this
theorem sg_i {K M r i : Nat} (hK : 1 ≤ K ∧ K ≤ 3) (hr : r < M * K) (hi : i < M * K) (h : sg K i = sg K r) : i = r := by
  obtain ⟨a1, a2, -⟩ := sg_n hK hr
  obtain ⟨b1, b2, -⟩ := sg_n hK hi
  rw [h] at b1 b2
  rw [← sg_r (K := K) (r := i), ← sg_r (K := K) (r := r), ← a1, ← a2, ← b1, ← b2]
theorem sg_rx {K M : Nat} (hK : 1 ≤ K ∧ K ≤ 3) (hM : M ≤ 3) (h : Nat → Int) (hz : ∀ q, q < 9 → ¬ (q / 3 < M ∧ q % 3 < K) → h q = 0) : ds_S h 9 = ds_S (fun r => h (sg K r)) (M * K) := by
  have z0 := hz 0 (by omega)
  have z1 := hz 1 (by omega)
  have z2 := hz 2 (by omega)
  have z3 := hz 3 (by omega)
  have z4 := hz 4 (by omega)
  have z5 := hz 5 (by omega)
  have z6 := hz 6 (by omega)
  have z7 := hz 7 (by omega)
  have z8 := hz 8 (by omega)
  clear hz
  rcases (show K = 1 ∨ K = 2 ∨ K = 3 by omega) with e | e | e <;> rcases (show M = 0 ∨ M = 1 ∨ M = 2 ∨ M = 3 by omega) with e2 | e2 | e2 | e2 <;> subst e e2 <;> simp at z0 z1 z2 z3 z4 z5 z6 z7 z8 <;> simp [ds_S, sg] <;> omega
