section T7
variable {d : LD} {R : RD} {F : Nat → Nat → Nat}
theorem rtb_0 (h : ROK R) {j k i k2 : Nat} (hj : j < R.M) (hk : k < R.K) (hn : ¬ (i < R.M ∧ k2 < R.K)) : rtb R j k i k2 = 0 := by
  refine ds_nS_zero fun o ho => ?_
  by_cases w : (R.J (3 * j + o)).toInt = (i : Int)
  · rw [if_pos w]
    have hjo := h.2.2.2.2.1 (3 * j + o) (by have := h.2.2.2.1 j hj; have := h.2.1; omega)
    unfold jOK at hjo
    exact wy_hi h (by have := h.2.1; omega) hk (by omega)
  · rw [if_neg w]
theorem rB_am (hO : LOK d) (h : ROK R) (e : REL d R) (hA : RA d F (d.1.2.1 * d.1.1)) (f : Nat → Nat → Nat) {i r : Nat} (hi : i < R.M * R.K) (hr : r < R.M * R.K) : rB R (sg R.K i) (sg R.K r) * (F 15 r : Int) = (rwh R (r / R.K) (r % R.K) : Int) * am F (R.M * R.K) f i r := by
  obtain ⟨r1, r2, r3, r4⟩ := sg_n h.1 hr
  obtain ⟨i1, i2, i3, i4⟩ := sg_n h.1 hi
  have hF := rtb_F hO h e hA r3 r4 i3 i4
  rw [sg_r, sg_r] at hF
  have hF : (rtb R (r / R.K) (r % R.K) (i / R.K) (i % R.K) : Int) * (F 15 r : Int) = (rwh R (r / R.K) (r % R.K) : Int) * (F (17 + i) r : Int) := by
    rw [← Int.natCast_mul, ← Int.natCast_mul, hF]
  unfold rB am
  rw [r1, r2, i1, i2, if_pos ⟨r3, r4⟩, if_pos hr]
  by_cases w : i = r
  · subst w
    rw [if_pos rfl, if_pos rfl, Int.sub_mul, hF, Int.mul_sub]
  · rw [if_neg w, if_neg (fun q => w (sg_i h.1 hr hi q)), Int.sub_mul, hF, Int.zero_mul]
    generalize (rwh R (r / R.K) (r % R.K) : Int) = x
    generalize (F (17 + i) r : Int) = y
    grind
theorem rB_row0 (h : ROK R) {i r : Nat} (hi : i < 9) (hn : ¬ (i / 3 < R.M ∧ i % 3 < R.K)) (hr : r < R.M * R.K) : rB R i (sg R.K r) = 0 := by
  obtain ⟨r1, r2, r3, r4⟩ := sg_n h.1 hr
  unfold rB
  rw [r1, r2, if_pos ⟨r3, r4⟩, rtb_0 h r3 r4 hn, if_neg (fun q => hn (by rw [q, r1, r2]; exact ⟨r3, r4⟩))]
  rfl
theorem F15_pos (hO : LOK d) (hS : SHS d) (hA : RA d F (d.1.2.1 * d.1.1)) {r : Nat} (hr : r < d.1.2.1 * d.1.1) : 1 ≤ F 15 r := (RA.at (LB_of hO hS) hA hr).2.2
/-- the reference's matrix leaks and has no trap, where the class's has none -/
theorem rB_good (hO : LOK d) (h : ROK R) (e : REL d R) (hA : RA d F (d.1.2.1 * d.1.1)) (hG : FG (d.1.2.1 * d.1.1) F) (f : Nat → Nat → Nat) : mx_Good (rBf R f) 9 := by
  have eK : d.1.1 = R.K := by rw [e.1]
  have eM : d.1.2.1 = R.M := by rw [e.1]
  have h15 : ∀ r, r < R.M * R.K → 1 ≤ F 15 r := fun r hr => F15_pos hO (e.shs h) hA (by rw [eK, eM]; exact hr)
  rw [eK, eM] at hG
  obtain ⟨g1, g2, g3⟩ := hG.1 (fun _ _ => 0)
  have lo : ∀ i q, q < 9 → rBf R f i q = rB R i q := fun i q hq => if_pos hq
  have hpos : ∀ r, r < R.M * R.K → 0 < rwh R (r / R.K) (r % R.K) := fun r hr => by
    obtain ⟨-, -, r3, r4⟩ := sg_n h.1 hr
    exact rwh_pos h (by have := h.2.1; omega) (by have := h.1; omega)
  -- a node is a row of the class
  have back : ∀ q, q < 9 → q / 3 < R.M ∧ q % 3 < R.K → ∃ r, r < R.M * R.K ∧ q = sg R.K r := fun q hq hn => by
    refine ⟨q / 3 * R.K + q % 3, ?_, ?_⟩
    · have := Nat.mul_le_mul_right R.K (show q / 3 + 1 ≤ R.M by omega)
      rw [Nat.add_mul, Nat.one_mul] at this
      omega
    · unfold sg
      have e1 : (q / 3 * R.K + q % 3) / R.K = q / 3 := by
        rw [Nat.mul_comm, Nat.mul_add_div (by omega), Nat.div_eq_of_lt hn.2]; omega
      have e2 : (q / 3 * R.K + q % 3) % R.K = q % 3 := by
        rw [Nat.mul_comm, Nat.mul_add_mod, Nat.mod_eq_of_lt hn.2]
      rw [e1, e2]; omega
  have cs : ∀ r, r < R.M * R.K → (F 15 r : Int) * ds_S (fun i => rBf R f i (sg R.K r)) 9 = (rwh R (r / R.K) (r % R.K) : Int) * ds_S (fun i => am F (R.M * R.K) (fun _ _ => 0) i r) (R.M * R.K) := fun r hr => by
    obtain ⟨r1, r2, r3, r4⟩ := sg_n h.1 hr
    have hs9 : sg R.K r < 9 := by have := h.2.1; have := h.1; omega
    have e1 : ds_S (fun i => rBf R f i (sg R.K r)) 9 = ds_S (fun i => rB R (sg R.K i) (sg R.K r)) (R.M * R.K) := by
      rw [ds_S_congr (fun i _ => lo i _ hs9)]
      exact sg_rx h.1 h.2.1 (fun i => rB R i (sg R.K r)) (fun q hq hn => rB_row0 h hq hn hr)
    rw [e1, ← ds_S_mul, ← ds_S_mul]
    refine ds_S_congr fun i hi => ?_
    rw [Int.mul_comm]; exact rB_am hO h e hA _ hi hr
  refine ⟨fun i q hi hq hne => ?_, fun q hq => ?_, fun S hS => ?_⟩
  · rw [lo i q hq]
    unfold rB
    by_cases w : q / 3 < R.M ∧ q % 3 < R.K
    · rw [if_pos w, if_neg hne]; omega
    · rw [if_neg w, if_neg hne]; omega
  · by_cases w : q / 3 < R.M ∧ q % 3 < R.K
    · obtain ⟨r, hr, rfl⟩ := back q hq w
      refine ds_inn (d := (F 15 r : Int)) (by have := h15 r hr; omega) ?_
      rw [cs r hr]
      exact Int.mul_nonneg (by omega) (g2 r hr)
    · refine ds_S_nn fun i hi => ?_
      rw [lo i q hq]
      unfold rB
      rw [if_neg w]
      by_cases w2 : i = q
      · rw [if_pos w2]; decide
      · rw [if_neg w2]; decide
  · obtain ⟨q, hq, hs⟩ := hS
    by_cases w : ∃ q, q < 9 ∧ S q ∧ ¬ (q / 3 < R.M ∧ q % 3 < R.K)
    · obtain ⟨q, hq, hs, hn⟩ := w
      refine ⟨q, hq, hs, Or.inl ?_⟩
      have hone : rBf R f q q = 1 := by
        rw [lo q q hq]
        unfold rB
        rw [if_neg hn, if_pos rfl]
      rw [ds_S_split _ q hq, hone]
      have := ds_S_nn (f := fun i => if i = q then 0 else rBf R f i q) (n := 9) (fun i hi => by
        show 0 ≤ if i = q then 0 else rBf R f i q
        by_cases w2 : i = q
        · rw [if_pos w2]; decide
        · rw [if_neg w2, lo i q hq]
          unfold rB
          rw [if_neg hn, if_neg w2]; decide)
      omega
    · have hall : ∀ q, q < 9 → S q → q / 3 < R.M ∧ q % 3 < R.K := fun q hq hs => Classical.byContradiction fun z => w ⟨q, hq, hs, z⟩
      obtain ⟨r0, hr0, e0⟩ := back q hq (hall q hq hs)
      obtain ⟨r, hr, hsr, hx⟩ := g3 (fun r => S (sg R.K r)) ⟨r0, hr0, by rw [← e0]; exact hs⟩
      obtain ⟨r1, r2, r3, r4⟩ := sg_n h.1 hr
      have hs9 : sg R.K r < 9 := by have := h.2.1; have := h.1; omega
      refine ⟨sg R.K r, hs9, hsr, ?_⟩
      rcases hx with hx | ⟨i, hi, hni, hx⟩
      · refine Or.inl (ds_ip (d := (F 15 r : Int)) (by have := h15 r hr; omega) ?_)
        rw [cs r hr]
        exact Int.mul_pos (by have := hpos r hr; omega) hx
      · obtain ⟨i1, i2, i3, i4⟩ := sg_n h.1 hi
        refine Or.inr ⟨sg R.K i, by have := h.2.1; have := h.1; omega, hni, ?_⟩
        rw [lo _ _ hs9]
        refine ds_in (d := (F 15 r : Int)) (by have := h15 r hr; omega) ?_
        rw [Int.mul_comm, rB_am hO h e hA (fun _ _ => 0) hi hr, Int.mul_comm]
        exact ds_imps hx (by have := hpos r hr; omega)
theorem rwh_dvd (h : ROK R) {j k : Nat} (hj : j < 3) (hk : k < 3) : ∃ x, rwh R j k * x = 27720 ^ 5 := by
  have hc := h.2.2.2.2.2.2.2.1 (3 * j + k) (by omega)
  have hK := h.1
  have com : ∀ k, k < 3 → ∃ x, rcom R j k * x = 27720 * 27720 := fun k hk => by
    have b0 := u_b (h.2.2.2.2.2.1 (2 * (3 * j + k)) (by omega)).1
    have b1 := u_b (h.2.2.2.2.2.1 (2 * (3 * j + k) + 1) (by omega)).1
    refine ⟨27720 / R.B (2 * (3 * j + k)) * (27720 / R.B (2 * (3 * j + k) + 1)), ?_⟩
    unfold rcom
    generalize 27720 / R.B (2 * (3 * j + k)) = c0 at *
    generalize 27720 / R.B (2 * (3 * j + k) + 1) = c1 at *
    generalize R.B (2 * (3 * j + k)) = x0 at *
    generalize R.B (2 * (3 * j + k) + 1) = x1 at *
    have : x0 * x1 * (c0 * c1) = (x0 * c0) * (x1 * c1) := by grind
    rw [this, b0, b1]
  have oth : ∃ x, roth R j k * x = 27720 * 27720 := by
    unfold roth
    by_cases w : 0 < R.C (3 * j + k)
    · rw [if_pos w]; exact com _ (by omega)
    · rw [if_neg w]; exact ⟨_, Nat.one_mul _⟩
  obtain ⟨x1, h1⟩ := com k hk
  obtain ⟨x2, h2⟩ := oth
  have h3 := u_b hc.2.1
  refine ⟨27720 / R.E (3 * j + k) * x1 * x2, ?_⟩
  unfold rwh
  generalize 27720 / R.E (3 * j + k) = c0 at *
  generalize R.E (3 * j + k) = x0 at *
  generalize rcom R j k = y1 at *
  generalize roth R j k = y2 at *
  have : x0 * y1 * y2 * (c0 * x1 * x2) = (x0 * c0) * (y1 * x1) * (y2 * x2) := by grind
  rw [this, h1, h2, h3]
/-- the class's solution and the reference's are the same fractions -/
theorem tie (hO : LOK d) (h : ROK R) (e : REL d R) (hA : RA d F (d.1.2.1 * d.1.1)) (hG : FG (d.1.2.1 * d.1.1) F) {f f' : Nat → Nat → Nat} {c c' : Nat} (hc : R.M * R.K ≤ c) (hc' : 9 ≤ c') (hf : ∀ r, r < R.M * R.K → f' (sg R.K r) c' = f r c) (hf0 : ∀ q, q < 9 → ¬ (q / 3 < R.M ∧ q % 3 < R.K) → f' q c' = 0) :
    (∀ r, r < R.M * R.K → ds_d (am F (R.M * R.K) f) (R.M * R.K) * ((rwh R (r / R.K) (r % R.K) : Int) * ds_C (rBf R f') 9 (sg R.K r) c') = ds_d (rBf R f') 9 * ((F 15 r : Int) * ds_C (am F (R.M * R.K) f) (R.M * R.K) r c)) ∧ ∀ q, q < 9 → ¬ (q / 3 < R.M ∧ q % 3 < R.K) → ds_C (rBf R f') 9 q c' = 0 := by
  have eK : d.1.1 = R.K := by rw [e.1]
  have eM : d.1.2.1 = R.M := by rw [e.1]
  have hgood := rB_good hO h e hA hG f'
  rw [eK, eM] at hG
  have hdp := (mx_Inv_all (hG.1 f) (R.M * R.K) (Nat.le_refl _)).1 _ (Nat.le_refl _)
  have hI := mx_Inv_all hgood 9 (Nat.le_refl _)
  have hne := mx_Inv_ne hI
  have lo : ∀ i q, q < 9 → rBf R f' i q = rB R i q := fun i q hq => if_pos hq
  obtain ⟨Wc, hWc⟩ : ∃ Wc : Nat → Nat, ∀ r, r < R.M * R.K → rwh R (r / R.K) (r % R.K) * Wc r = 27720 ^ 5 := by
    have : ∀ r, ∃ x, r < R.M * R.K → rwh R (r / R.K) (r % R.K) * x = 27720 ^ 5 := fun r => by
      by_cases w : r < R.M * R.K
      · obtain ⟨-, -, r3, r4⟩ := sg_n h.1 w
        obtain ⟨x, hx⟩ := rwh_dvd h (j := r / R.K) (k := r % R.K) (by have := h.2.1; omega) (by have := h.1; omega)
        exact ⟨x, fun _ => hx⟩
      · exact ⟨0, fun q => absurd q w⟩
    exact ⟨fun r => Classical.choose (this r), fun r => Classical.choose_spec (this r)⟩
  generalize hCe : (fun r => ds_C (am F (R.M * R.K) f) (R.M * R.K) r c) = C
  have hC : ∀ r, ds_C (am F (R.M * R.K) f) (R.M * R.K) r c = C r := fun r => by rw [← hCe]
  generalize hDe : ds_d (am F (R.M * R.K) f) (R.M * R.K) = dd at *
  generalize hBe : ds_d (rBf R f') 9 = dB at *
  -- the class's numbers as a solution of the reference's rows
  have hX : ∀ i, i < 9 → ds_S (fun q => rBf R f' i q * (if q / 3 < R.M ∧ q % 3 < R.K then C (q / 3 * R.K + q % 3) * (F 15 (q / 3 * R.K + q % 3) : Int) * (Wc (q / 3 * R.K + q % 3) : Int) else 0)) 9 = 27720 ^ 5 * (dd * (f' i c' : Int)) := by
    intro i hi
    have e1 : ds_S (fun q => rBf R f' i q * (if q / 3 < R.M ∧ q % 3 < R.K then C (q / 3 * R.K + q % 3) * (F 15 (q / 3 * R.K + q % 3) : Int) * (Wc (q / 3 * R.K + q % 3) : Int) else 0)) 9 = ds_S (fun q => rB R i q * (if q / 3 < R.M ∧ q % 3 < R.K then C (q / 3 * R.K + q % 3) * (F 15 (q / 3 * R.K + q % 3) : Int) * (Wc (q / 3 * R.K + q % 3) : Int) else 0)) 9 := ds_S_congr fun q hq => by rw [lo i q hq]
    rw [e1, sg_rx h.1 h.2.1 _ (fun q hq hn => by rw [if_neg hn, Int.mul_zero])]
    have e2 : ∀ r, r < R.M * R.K → rB R i (sg R.K r) * (if sg R.K r / 3 < R.M ∧ sg R.K r % 3 < R.K then C (sg R.K r / 3 * R.K + sg R.K r % 3) * (F 15 (sg R.K r / 3 * R.K + sg R.K r % 3) : Int) * (Wc (sg R.K r / 3 * R.K + sg R.K r % 3) : Int) else 0) = rB R i (sg R.K r) * (C r * (F 15 r : Int) * (Wc r : Int)) := fun r hr => by
      obtain ⟨r1, r2, r3, r4⟩ := sg_n h.1 hr
      rw [r1, r2, if_pos ⟨r3, r4⟩, sg_r]
    rw [ds_S_congr e2]
    by_cases w : i / 3 < R.M ∧ i % 3 < R.K
    · -- a node
      have hi0 : i / 3 * R.K + i % 3 < R.M * R.K := by
        have := Nat.mul_le_mul_right R.K (show i / 3 + 1 ≤ R.M by omega)
        rw [Nat.add_mul, Nat.one_mul] at this
        omega
      have hsi : i = sg R.K (i / 3 * R.K + i % 3) := by
        unfold sg
        have q1 : (i / 3 * R.K + i % 3) / R.K = i / 3 := by
          rw [Nat.mul_comm, Nat.mul_add_div (by omega), Nat.div_eq_of_lt w.2]; omega
        have q2 : (i / 3 * R.K + i % 3) % R.K = i % 3 := by
          rw [Nat.mul_comm, Nat.mul_add_mod, Nat.mod_eq_of_lt w.2]
        rw [q1, q2]; omega
      generalize i / 3 * R.K + i % 3 = ri at hi0 hsi
      subst hsi
      have e3 : ds_S (fun r => rB R (sg R.K ri) (sg R.K r) * (C r * (F 15 r : Int) * (Wc r : Int))) (R.M * R.K) = ds_S (fun r => 27720 ^ 5 * (am F (R.M * R.K) f ri r * C r)) (R.M * R.K) := ds_S_congr fun r hr => by
        have q1 := rB_am hO h e hA f hi0 hr
        have q2 : (rwh R (r / R.K) (r % R.K) : Int) * (Wc r : Int) = 27720 ^ 5 := by
          rw [← Int.natCast_mul, hWc r hr]; rfl
        generalize rB R (sg R.K ri) (sg R.K r) = x1 at *
        generalize (F 15 r : Int) = x2 at *
        generalize (Wc r : Int) = x3 at *
        generalize C r = x4 at *
        generalize (rwh R (r / R.K) (r % R.K) : Int) = x5 at *
        generalize am F (R.M * R.K) f ri r = x6 at *
        rw [← q2]
        have : x1 * (x4 * x2 * x3) = (x1 * x2) * (x4 * x3) := by grind
        rw [this, q1]; grind
      rw [e3, ds_S_mul]
      have q := ds_C_solves (am F (R.M * R.K) f) (R.M * R.K) ri c hi0
      rw [ds_S_congr (fun r _ => by rw [hC r])] at q
      rw [q, hDe]
      have q3 : am F (R.M * R.K) f ri c = (f ri c : Int) := if_neg (by omega)
      rw [q3, hf ri hi0, Int.mul_comm (f ri c : Int)]
    · rw [ds_S_zero (fun r hr => by rw [rB_row0 h hi w hr, Int.zero_mul]), hf0 i hi w]
      grind
  -- so they are one solution
  have key := ds_d_inj (rBf R f') 9 (fun q => dB * (if q / 3 < R.M ∧ q % 3 < R.K then C (q / 3 * R.K + q % 3) * (F 15 (q / 3 * R.K + q % 3) : Int) * (Wc (q / 3 * R.K + q % 3) : Int) else 0) - 27720 ^ 5 * (dd * ds_C (rBf R f') 9 q c')) hne (fun i hi => by
    have e1 : ds_S (fun t => rBf R f' i t * (dB * (if t / 3 < R.M ∧ t % 3 < R.K then C (t / 3 * R.K + t % 3) * (F 15 (t / 3 * R.K + t % 3) : Int) * (Wc (t / 3 * R.K + t % 3) : Int) else 0) - 27720 ^ 5 * (dd * ds_C (rBf R f') 9 t c'))) 9 = dB * ds_S (fun q => rBf R f' i q * (if q / 3 < R.M ∧ q % 3 < R.K then C (q / 3 * R.K + q % 3) * (F 15 (q / 3 * R.K + q % 3) : Int) * (Wc (q / 3 * R.K + q % 3) : Int) else 0)) 9 - 27720 ^ 5 * dd * ds_S (fun q => rBf R f' i q * ds_C (rBf R f') 9 q c') 9 := by
      rw [← ds_S_mul, ← ds_S_mul, ← ds_S_sub]
      refine ds_S_congr fun q _ => ?_
      generalize (if q / 3 < R.M ∧ q % 3 < R.K then C (q / 3 * R.K + q % 3) * (F 15 (q / 3 * R.K + q % 3) : Int) * (Wc (q / 3 * R.K + q % 3) : Int) else 0) = x1
      generalize rBf R f' i q = x2
      generalize ds_C (rBf R f') 9 q c' = x3
      generalize (27720 : Int) ^ 5 = x4
      grind
    rw [e1, hX i hi, ds_C_solves (rBf R f') 9 i c' hi, hBe]
    have q3 : rBf R f' i c' = (f' i c' : Int) := if_neg (by omega)
    rw [q3]
    generalize (f' i c' : Int) = x1
    generalize (27720 : Int) ^ 5 = x4
    grind)
  have hP : (27720 : Int) ^ 5 ≠ 0 := by decide
  refine ⟨fun r hr => ?_, fun q hq hn => ?_⟩
  · obtain ⟨r1, r2, r3, r4⟩ := sg_n h.1 hr
    have hs9 : sg R.K r < 9 := by have := h.2.1; have := h.1; omega
    have q1 := key _ hs9
    have q1 : dB * (if sg R.K r / 3 < R.M ∧ sg R.K r % 3 < R.K then C (sg R.K r / 3 * R.K + sg R.K r % 3) * (F 15 (sg R.K r / 3 * R.K + sg R.K r % 3) : Int) * (Wc (sg R.K r / 3 * R.K + sg R.K r % 3) : Int) else 0) - 27720 ^ 5 * (dd * ds_C (rBf R f') 9 (sg R.K r) c') = 0 := q1
    rw [r1, r2, if_pos ⟨r3, r4⟩, sg_r] at q1
    have q2 : (rwh R (r / R.K) (r % R.K) : Int) * (Wc r : Int) = 27720 ^ 5 := by
      rw [← Int.natCast_mul, hWc r hr]; rfl
    have hc9 : ds_C (am F (R.M * R.K) f) (R.M * R.K) r c = C r := hC r
    show dd * _ = dB * (_ * ds_C (am F (R.M * R.K) f) (R.M * R.K) r c)
    rw [hc9]
    refine Int.eq_of_mul_eq_mul_left hP ?_
    generalize ds_C (rBf R f') 9 (sg R.K r) c' = x1 at *
    generalize (F 15 r : Int) = x2 at *
    generalize (Wc r : Int) = x3 at *
    generalize C r = x4 at *
    generalize (rwh R (r / R.K) (r % R.K) : Int) = x5 at *
    generalize (27720 : Int) ^ 5 = x6 at *
    have q3 : x6 * (dd * x1) = dB * (x4 * x2 * x3) := by omega
    have : x6 * (dd * (x5 * x1)) = x5 * (x6 * (dd * x1)) := by grind
    rw [this, q3, ← q2]; grind
  · have q1 := key _ hq
    have q1 : dB * (if q / 3 < R.M ∧ q % 3 < R.K then C (q / 3 * R.K + q % 3) * (F 15 (q / 3 * R.K + q % 3) : Int) * (Wc (q / 3 * R.K + q % 3) : Int) else 0) - 27720 ^ 5 * (dd * ds_C (rBf R f') 9 q c') = 0 := q1
    rw [if_neg hn, Int.mul_zero, Int.zero_sub, Int.neg_eq_zero] at q1
    rcases Int.mul_eq_zero.mp q1 with w | w
    · exact absurd w hP
    · rcases Int.mul_eq_zero.mp w with w | w
      · omega
      · exact w
end T7
