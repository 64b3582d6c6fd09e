/-! What the reference gathers are these numbers. -/
theorem btz_a {R : RD} {f : Nat → Nat → Nat} {i q : Nat} (hi : i < 9) (hq : q < 9) : btz (rWv R) (rTv R) i q = rBf R f i q := by
  rw [btz_rB R hi hq]
  unfold rBf
  rw [if_pos hq]
theorem STD.ov {R : RD} (h : STD R) : (rDT R : Int) = ds_d (fl_b (btz (rWv R) (rTv R)) 9) 9 := by
  rw [(h.d (rfd R)).1]
  refine ds_D_ex _ _ 9 _ _ fun r t hr ht => ?_
  show rBf R (rfd R) r t = fl_b (btz (rWv R) (rTv R)) 9 r t
  unfold fl_b
  rw [if_pos ht, btz_a (f := rfd R) hr ht]
theorem STD.am {R : RD} (h : STD R) (w : Nat → Nat) : (rAm R w : Int) = amtB (btz (rWv R) (rTv R)) w R.F := by
  unfold rAm amtB
  rw [← ds_S_nat]
  refine ds_S_congr fun q hq => ?_
  rw [Int.natCast_mul, h.z (rfd R) hq (Nat.le_refl _)]
  congr 1
  have ha : ∀ i c, c < 9 → (fun (i c : Nat) => if c < 9 then btz (rWv R) (rTv R) i c else (R.F i : Int)) i c = btz (rWv R) (rTv R) i c := fun i c hc => if_pos hc
  have hI := mx_Inv_ne (mx_Inv_all (h.good (rfd R)) 9 (Nat.le_refl _))
  have hne : ∀ i, 1 ≤ i → i ≤ 9 → ds_d (fun (i c : Nat) => if c < 9 then btz (rWv R) (rTv R) i c else (R.F i : Int)) i ≠ 0 := fun i h1 h2 => by
    have : ds_d (fun (i c : Nat) => if c < 9 then btz (rWv R) (rTv R) i c else (R.F i : Int)) i = ds_d (rBf R (rfd R)) i := ds_D_ex _ _ i _ _ fun r t hr ht => by
      show (if t < 9 then btz (rWv R) (rTv R) r t else (R.F r : Int)) = rBf R (rfd R) r t
      rw [if_pos (by omega), btz_a (f := rfd R) (by omega) (by omega)]
    rw [this]
    exact hI i h1 h2
  have key := adj_f (c := 9) ha hne hq
  have e : ds_C (rBf R (rfd R)) 9 q 9 = ds_C (fun (i c : Nat) => if c < 9 then btz (rWv R) (rTv R) i c else (R.F i : Int)) 9 q 9 := C_same hq (fun i t hi ht => by
    rw [if_pos ht, btz_a (f := rfd R) hi ht]) (fun i hi => by
    unfold rBf rfd
    rw [if_neg (by decide), if_neg (by decide)])
  rw [e, ← key]
  exact ds_S_congr fun i _ => by
    rw [if_neg (by decide)]
theorem STD.wo {R : RD} (h : STD R) (w : Nat → Nat) {nd : Nat} (hnd : nd < 9) : (rWo R w nd : Int) = wthB (btz (rWv R) (rTv R)) w nd := by
  unfold rWo wthB
  rw [← ds_S_nat]
  refine ds_S_congr fun q hq => ?_
  rw [Int.natCast_mul, h.z run1 hq (by omega)]
  congr 1
  refine C_same hq (fun i t hi ht => ?_) (fun i hi => ?_)
  · unfold fl_b
    rw [if_pos ht, btz_a (f := run1) hi ht]
  · unfold rBf fl_b run1
    rw [if_neg (show ¬ 9 + nd < 9 by omega), if_neg (show ¬ 9 + nd < 9 by omega)]
    split <;> rfl
theorem num_b : 9 * (2 ^ 24 * (497664 ^ 8 * 9000000)) < 2 ^ 240 ∧ 497664 ^ 9 < 2 ^ 240 ∧ 2 ^ 240 < bB ^ 22 ∧ 2 ^ 240 * 2 ^ 240 < bB ^ 22 := by decide
theorem STD.dlt {R : RD} (h : STD R) : rDT R < 2 ^ 240 := Nat.lt_of_le_of_lt h.dle num_b.2.1
theorem STD.alt {R : RD} (h : STD R) {w : Nat → Nat} (hw : ∀ q, q < 9 → w q ≤ 2 ^ 24) : rAm R w < 2 ^ 240 := by
  refine Nat.lt_of_le_of_lt ?_ num_b.1
  unfold rAm
  refine ds_nS_bd fun q hq => Nat.mul_le_mul (hw q hq) (h.zle (rfd R) hq (Nat.le_refl _) ?_)
  have := ds_nS_bd (f := fun i => rfd R i 9) (c := 1000000) (n := 9) (fun i hi => h.1.2.2.2.2.2.2.2.2.2 i hi)
  omega
theorem STD.wlt {R : RD} (h : STD R) {w : Nat → Nat} {nd : Nat} (hw : ∀ q, q < 9 → w q ≤ 2 ^ 24) : rWo R w nd < 2 ^ 240 := by
  refine Nat.lt_of_le_of_lt ?_ num_b.1
  unfold rWo
  refine ds_nS_bd fun q hq => Nat.mul_le_mul (hw q hq) (h.zle run1 hq (by omega) ?_)
  have := ds_nS_bd (f := fun i => run1 i (9 + nd)) (c := 1) (n := 9) (fun i hi => by unfold run1; split <;> decide)
  omega
/-! The same fractions as the class's. -/
section NM
variable {d : LD} {R : RD} {F : Nat → Nat → Nat}
theorem nx_cancel {D D' W C C' f15 x y : Int} (hW : 0 < W) (t : D * (W * C') = D' * (f15 * C)) (e : x * f15 = W * y) : D * (x * C') = D' * (y * C) := by
  have h1 : W * (D * (x * C')) = W * (D' * (y * C)) := by
    have e1 : W * (D * (x * C')) = x * (D * (W * C')) := by grind
    have e2 : W * (D' * (y * C)) = D' * C * (W * y) := by grind
    rw [e1, t, e2, ← e]; grind
  have h2 : W * (D * (x * C') - D' * (y * C)) = 0 := by rw [Int.mul_sub, h1]; omega
  rcases Int.mul_eq_zero.mp h2 with z | z <;> omega
/-- sums over the nodes, weighed as class and reference weigh them -/
theorem nx_sum (hO : LOK d) (h : ROK R) (e : REL d R) (hA : RA d F (d.1.2.1 * d.1.1)) (hG : FG (d.1.2.1 * d.1.1) F) {f f' : Nat → Nat → Nat} {q c' : Nat} (hc' : 9 ≤ c') (hf : ∀ r, r < R.M * R.K → f' (sg R.K r) c' = f r (R.M * R.K + q)) (hf0 : ∀ q, q < 9 → ¬ (q / 3 < R.M ∧ q % 3 < R.K) → f' q c' = 0) {w y : Nat → Nat} (hw : ∀ r, r < R.M * R.K → w (sg R.K r) * F 15 r = rwh R (r / R.K) (r % R.K) * y r) :
    ds_nS (fun r => y r * zs F (R.M * R.K) f q r) (R.M * R.K) * rDT R = ds_nS (fun q => w q * rZ R f' c' q) 9 * dt F (R.M * R.K) f := by
  have hS : STD R := ⟨h, d, F, hO, e, hA, hG⟩
  have eK : d.1.1 = R.K := by rw [e.1]
  have eM : d.1.2.1 = R.M := by rw [e.1]
  obtain ⟨t1, t2⟩ := tie hO h e hA hG (f := f) (f' := f') (c := R.M * R.K + q) (c' := c') (Nat.le_add_right _ _) hc' hf hf0
  rw [eK, eM] at hG
  have hn9 : R.M * R.K ≤ 9 := Nat.mul_le_mul h.2.1 h.1.2
  have hdp := am_d (f := f) hG hn9
  have hdt : (dt F (R.M * R.K) f : Int) = ds_d (am F (R.M * R.K) f) (R.M * R.K) := by unfold dt; omega
  have hzs : ∀ r, r < R.M * R.K → (zs F (R.M * R.K) f q r : Int) = ds_C (am F (R.M * R.K) f) (R.M * R.K) r (R.M * R.K + q) := fun r hr => by
    have := (am_C (f := f) (j := R.M * R.K + q) hG hn9 hr (Nat.le_add_right _ _) (Nat.le_refl _)).1
    unfold zs; omega
  have hrd := (hS.d f').1
  apply Int.natCast_inj.mp
  rw [Int.natCast_mul, Int.natCast_mul, ← ds_S_nat, ← ds_S_nat]
  rw [sg_rx h.1 h.2.1 (fun q => ((w q * rZ R f' c' q : Nat) : Int)) (fun q hq hn => by
    have : (rZ R f' c' q : Int) = 0 := by rw [hS.z f' hq hc']; exact t2 q hq hn
    have : rZ R f' c' q = 0 := by omega
    rw [this]; rfl)]
  rw [Int.mul_comm, ← ds_S_mul, Int.mul_comm (ds_S _ _), ← ds_S_mul]
  refine ds_S_congr fun r hr => ?_
  obtain ⟨r1, r2, r3, r4⟩ := sg_n h.1 hr
  have hM := h.2.1
  have hK := h.1
  have hs9 : sg R.K r < 9 := by unfold sg; omega
  rw [Int.natCast_mul, Int.natCast_mul, hrd, hdt, hzs r hr, hS.z f' hs9 hc']
  have hW := rwh_pos h (j := r / R.K) (k := r % R.K) (by omega) (by omega)
  refine (nx_cancel (W := (rwh R (r / R.K) (r % R.K) : Int)) (f15 := (F 15 r : Int)) (by omega) (t1 r hr) ?_).symm
  have := hw r hr
  rw [← Int.natCast_mul, ← Int.natCast_mul, this]
end NM
