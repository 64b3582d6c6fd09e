/-! The class's answers are the reference's: crosswise. -/
theorem nS_plus (g : Nat → Nat) (a : Nat) : ∀ b : Nat, ds_nS g (a + b) = ds_nS g a + ds_nS (fun k => g (a + k)) b
  | 0 => rfl
  | b + 1 => by
    show ds_nS g (a + b) + g (a + b) = _
    rw [nS_plus g a b, Nat.add_assoc]
    rfl
theorem nS_blk (g : Nat → Nat) {K j : Nat} (hK : 0 < K) : ∀ {M : Nat}, j < M → ds_nS (fun r => if r / K = j then g r else 0) (M * K) = ds_nS (fun k => g (j * K + k)) K
  | M + 1, hj => by
    rw [Nat.add_mul, Nat.one_mul, nS_plus]
    have hd : ∀ k, k < K → (M * K + k) / K = M := fun k hk => by rw [Nat.mul_comm, Nat.mul_add_div hK, Nat.div_eq_of_lt hk]; omega
    by_cases w : j = M
    · subst w
      have z : ds_nS (fun r => if r / K = j then g r else 0) (j * K) ≤ j * K * 0 := ds_nS_bd (fun r hr => by
        rw [if_neg (fun z => by
          have := (Nat.div_lt_iff_lt_mul hK).mpr hr
          omega)]
        exact Nat.le_refl 0)
      rw [Nat.mul_zero] at z
      rw [Nat.le_zero.mp z, Nat.zero_add]
      exact ds_nS_congr fun k hk => by rw [if_pos (hd k hk)]
    · rw [nS_blk g hK (show j < M by omega)]
      have z : ds_nS (fun k => if (M * K + k) / K = j then g (M * K + k) else 0) K ≤ K * 0 := ds_nS_bd (fun k hk => by
        rw [hd k hk, if_neg (fun z => w z.symm)]; exact Nat.le_refl 0)
      rw [Nat.mul_zero] at z
      rw [Nat.le_zero.mp z]
      rfl
section AN
variable {d : LD} {R : RD} {F : Nat → Nat → Nat}
theorem fd_sg (e : REL d R) {r : Nat} (hK : 1 ≤ R.K ∧ R.K ≤ 3) (hr : r < R.M * R.K) : R.F (sg R.K r) = d.2.2.2.2.2.2 r := by
  obtain ⟨r1, r2, r3, r4⟩ := sg_n hK hr
  have := (e.2.2.2.2.1 (r / R.K) (r % R.K) r3 r4).2.2
  rw [sg_r] at this
  rw [this]
  rfl
theorem fd_0 (h : ROK R) (e : REL d R) {q : Nat} (hq : q < 9) (hn : ¬ (q / 3 < R.M ∧ q % 3 < R.K)) : R.F q = 0 := by
  by_cases w : q / 3 < R.M
  · have := e.2.2.2.2.2.2.2.2 (q / 3) (q % 3) (by omega) (by omega) (by omega)
    rw [show 3 * (q / 3) + q % 3 = q by omega] at this
    exact this
  · exact (e.2.2.2.2.2.2.1 q (by omega) hq).2.2.2.2
theorem an_out (hO : LOK d) (h : ROK R) (e : REL d R) (hA : RA d F (d.1.2.1 * d.1.1)) (hG : FG (d.1.2.1 * d.1.1) F) {p k : Nat} (hp : p < R.P) (hk : k < R.K) : amz F (zs F (R.M * R.K) (f0 d) 0) (p * R.K + k) (R.M * R.K) * rDT R = rAm R (wpt R p (nI k)) * dt F (R.M * R.K) (f0 d) := by
  have hP := h.2.2.1
  have hK := h.1
  refine nx_sum (f := f0 d) (f' := rfd R) (q := 0) (c' := 9) (w := wpt R p (nI k)) (y := fun r => F (27 + (p * R.K + k)) r) hO h e hA hG (Nat.le_refl 9) (fun r hr => fd_sg e hK hr) (fun q hq hn => fd_0 h e hq hn) (fun r hr => ?_)
  obtain ⟨r1, r2, r3, r4⟩ := sg_n hK hr
  have := rpt_F hO h e hA r3 r4 hp hk
  rw [sg_r] at this
  rw [← this]
  unfold sg
  rw [wpt_one h (by omega) r3 r4 (by omega)]
theorem an_ld (hO : LOK d) (h : ROK R) (e : REL d R) (hA : RA d F (d.1.2.1 * d.1.1)) (hG : FG (d.1.2.1 * d.1.1) F) {j : Nat} (hj : j < R.M) : ldz F (zs F (R.M * R.K) (f0 d) 0) (j * R.K) R.K * rDT R = rAm R (lwt R j) * dt F (R.M * R.K) (f0 d) := by
  have hK := h.1
  have hM := h.2.1
  have e1 : ldz F (zs F (R.M * R.K) (f0 d) 0) (j * R.K) R.K = ds_nS (fun r => (if r / R.K = j then F 15 r else 0) * zs F (R.M * R.K) (f0 d) 0 r) (R.M * R.K) := by
    unfold ldz
    rw [← nS_blk (fun r => F 15 r * zs F (R.M * R.K) (f0 d) 0 r) (show 0 < R.K by omega) hj]
    exact ds_nS_congr fun r _ => by
      split
      · rfl
      · rw [Nat.zero_mul]
  rw [e1]
  refine nx_sum (f := f0 d) (f' := rfd R) (q := 0) (c' := 9) (w := lwt R j) (y := fun r => if r / R.K = j then F 15 r else 0) hO h e hA hG (Nat.le_refl 9) (fun r hr => fd_sg e hK hr) (fun q hq hn => fd_0 h e hq hn) (fun r hr => ?_)
  obtain ⟨r1, r2, r3, r4⟩ := sg_n hK hr
  unfold lwt rWv
  rw [if_pos (show inN R (sg R.K r) from ⟨by rw [r1]; exact r3, by rw [r2]; exact r4⟩), r1, r2]
  by_cases w : r / R.K = j
  · rw [if_pos ⟨w, r4⟩, if_pos w]
  · rw [if_neg (fun z => w z.1), if_neg w, Nat.zero_mul, Nat.mul_zero]
theorem an_ps (hO : LOK d) (h : ROK R) (e : REL d R) (hA : RA d F (d.1.2.1 * d.1.1)) (hG : FG (d.1.2.1 * d.1.1) F) {f : Nat → Nat → Nat} (hf : ∀ r, r < R.M * R.K → f r (R.M * R.K + 0) = d.2.2.2.2.2.2 r) {j k : Nat} (hj : j < R.M) (hk : k < R.K) : psz F (zs F (R.M * R.K) f 0) k (j * R.K) R.K * rDT R = rAm R (swt R j k) * dt F (R.M * R.K) f := by
  have hK := h.1
  have hM := h.2.1
  have e1 : psz F (zs F (R.M * R.K) f 0) k (j * R.K) R.K = ds_nS (fun r => (if r / R.K = j then F (37 + k) r else 0) * zs F (R.M * R.K) f 0 r) (R.M * R.K) := by
    unfold psz
    rw [← nS_blk (fun r => F (37 + k) r * zs F (R.M * R.K) f 0 r) (show 0 < R.K by omega) hj]
    exact ds_nS_congr fun r _ => by
      split
      · rfl
      · rw [Nat.zero_mul]
  rw [e1]
  refine nx_sum (f := f) (f' := rfd R) (q := 0) (c' := 9) (w := swt R j k) (y := fun r => if r / R.K = j then F (37 + k) r else 0) hO h e hA hG (Nat.le_refl 9) (fun r hr => by rw [hf r hr]; exact fd_sg e hK hr) (fun q hq hn => fd_0 h e hq hn) (fun r hr => ?_)
  obtain ⟨r1, r2, r3, r4⟩ := sg_n hK hr
  unfold swt
  rw [r1, r2]
  by_cases w : r / R.K = j
  · rw [if_pos ⟨w, r4⟩, if_pos w]
    have := rps_F hO h e hA r3 r4 hk
    rw [sg_r] at this
    rw [← this]
    unfold rps
    congr 1
    rw [← w]
    refine ds_nS_congr fun o ho => ?_
    exact rYv_at (by omega) (by omega) r3 r4 hM ho
  · rw [if_neg (fun z => w z.1), if_neg w, Nat.zero_mul, Nat.mul_zero]
theorem an_re (hO : LOK d) (h : ROK R) (e : REL d R) (hA : RA d F (d.1.2.1 * d.1.1)) (hG : FG (d.1.2.1 * d.1.1) F) {f : Nat → Nat → Nat} {q to k p : Nat} (ht : to < R.M) (hk : k < R.K) (hp : p < R.P) (hf : ∀ r, r < R.M * R.K → f r (R.M * R.K + q) = if r = to * R.K + k then 1 else 0) : ds_nS (fun k2 => amz F (zs F (R.M * R.K) f q) (p * R.K + k2) (R.M * R.K)) R.K * rDT R = rWo R (wpt R p (-1)) (3 * to + k) * dt F (R.M * R.K) f := by
  have hK := h.1
  have hM := h.2.1
  have hP := h.2.2.1
  have e1 : ds_nS (fun k2 => amz F (zs F (R.M * R.K) f q) (p * R.K + k2) (R.M * R.K)) R.K = ds_nS (fun r => ds_nS (fun k2 => F (27 + (p * R.K + k2)) r) R.K * zs F (R.M * R.K) f q r) (R.M * R.K) := by
    unfold amz
    rw [ds_nS_swap]
    exact ds_nS_congr fun r _ => by rw [ds_nS_mul]
  rw [e1]
  have hrow : to * R.K + k < R.M * R.K := by
    have := Nat.mul_le_mul_right R.K (show to + 1 ≤ R.M by omega)
    rw [Nat.add_mul, Nat.one_mul] at this
    omega
  have hsg : sg R.K (to * R.K + k) = 3 * to + k := by
    unfold sg
    have q1 : (to * R.K + k) / R.K = to := by rw [Nat.mul_comm, Nat.mul_add_div (by omega), Nat.div_eq_of_lt hk]; omega
    have q2 : (to * R.K + k) % R.K = k := by rw [Nat.mul_comm, Nat.mul_add_mod, Nat.mod_eq_of_lt hk]
    rw [q1, q2]
  refine nx_sum (f := f) (f' := run1) (q := q) (c' := 9 + (3 * to + k)) (w := wpt R p (-1)) (y := fun r => ds_nS (fun k2 => F (27 + (p * R.K + k2)) r) R.K) hO h e hA hG (show 9 ≤ 9 + (3 * to + k) by omega) (fun r hr => ?_) (fun q hq hn => ?_) (fun r hr => ?_)
  · rw [hf r hr]
    unfold run1
    by_cases w : r = to * R.K + k
    · rw [if_pos w, w, hsg, if_pos (by omega)]
    · rw [if_neg w, if_neg (fun z => w (sg_i hK hrow hr (by rw [hsg]; omega)))]
  · unfold run1
    rw [if_neg (fun z => hn (by
      have : q = 3 * to + k := by omega
      subst this
      exact ⟨by omega, by omega⟩))]
  · obtain ⟨r1, r2, r3, r4⟩ := sg_n hK hr
    unfold sg
    rw [wpt_all h (by omega) r3 r4, ← ds_nS_mul, ← ds_nS_lmul]
    refine ds_nS_congr fun k2 hk2 => ?_
    have := rpt_F hO h e hA r3 r4 hp hk2
    rw [sg_r] at this
    exact this
end AN
