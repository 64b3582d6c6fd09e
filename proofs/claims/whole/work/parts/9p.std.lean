/-! A line that stands has its numbers. -/
def gcdT (f : Nat → Nat) : Nat → Nat
  | 0 => 0
  | n + 1 => Nat.gcd (gcdT f n) (f n)
theorem gcdT_dvd (f : Nat → Nat) : ∀ {n t : Nat}, t < n → gcdT f n ∣ f t
  | n + 1, t, h => by
    by_cases w : t = n
    · subst w; exact Nat.gcd_dvd_right _ _
    · exact Nat.dvd_trans (Nat.gcd_dvd_left _ _) (gcdT_dvd f (show t < n by omega))
theorem dvd_gcdT (f : Nat → Nat) {w : Nat} : ∀ {n : Nat}, (∀ t, t < n → w ∣ f t) → w ∣ gcdT f n
  | 0, _ => Nat.dvd_zero w
  | n + 1, h => Nat.dvd_gcd (dvd_gcdT f (fun t ht => h t (by omega))) (h n (by omega))
theorem RA_ex (d : LD) (hK : 1 ≤ d.1.1) : ∃ F, RA d F (d.1.2.1 * d.1.1) := by
  refine ⟨fun t r => colD d (r / d.1.1) (r % d.1.1) t / gcdT (fun t => if t = 15 ∨ (17 ≤ t ∧ t < 26) ∨ (27 ≤ t ∧ t < 36) ∨ (37 ≤ t ∧ t < 40) then colD d (r / d.1.1) (r % d.1.1) t else 0) 40, fun j k hj hk _ => ?_⟩
  have q1 : (j * d.1.1 + k) / d.1.1 = j := by rw [Nat.mul_comm, Nat.mul_add_div (by omega), Nat.div_eq_of_lt hk]; omega
  have q2 : (j * d.1.1 + k) % d.1.1 = k := by rw [Nat.mul_comm, Nat.mul_add_mod, Nat.mod_eq_of_lt hk]
  dsimp only
  rw [q1, q2]
  generalize hg : gcdT (fun t => if t = 15 ∨ (17 ≤ t ∧ t < 26) ∨ (27 ≤ t ∧ t < 36) ∨ (37 ≤ t ∧ t < 40) then colD d j k t else 0) 40 = g
  have hd : ∀ t, fk t → g ∣ colD d j k t := fun t ht => by
    have := gcdT_dvd (fun t => if t = 15 ∨ (17 ≤ t ∧ t < 26) ∨ (27 ≤ t ∧ t < 36) ∨ (37 ≤ t ∧ t < 40) then colD d j k t else 0) (n := 40) (t := t) (by unfold fk at ht; omega)
    rw [hg] at this
    rw [if_pos (show t = 15 ∨ (17 ≤ t ∧ t < 26) ∨ (27 ≤ t ∧ t < 36) ∨ (37 ≤ t ∧ t < 40) from ht)] at this
    exact this
  have hpos : 1 ≤ g := by
    rcases Nat.eq_zero_or_pos g with z | z
    · have := hd 15 (Or.inl rfl)
      rw [z, colD_15] at this
      have := Nat.eq_zero_of_zero_dvd this
      omega
    · exact z
  refine ⟨g, hpos, fun t ht => Nat.mul_div_cancel' (hd t ht), fun w hw => ?_⟩
  rw [← hg]
  refine dvd_gcdT _ (fun t ht => ?_)
  split
  · next c => exact hw t c
  · exact Nat.dvd_zero w
theorem STD_of {d : LD} {R : RD} (hO : LOK d) (h : ROK R) (e : REL d R) (hst : stands d) : STD R := by
  obtain ⟨F, hF⟩ := RA_ex d hO.1.1
  exact ⟨h, d, F, hO, e, hF, FG_of hO h e hst hF⟩
theorem rStd_iff {d : LD} {R : RD} (hO : LOK d) (h : ROK R) (e : REL d R) : rStd R ↔ stands d := by
  have eM : d.1.2.1 = R.M := by rw [e.1]
  constructor
  · intro hs i hi hk
    exact hs i (by omega) ((stk_same hO h e (by omega)).mp hk)
  · intro hs j hj hk
    exact hs j (by omega) ((stk_same hO h e hj).mpr hk)
/-! The weights of a port. -/
theorem nS_cut {g : Nat → Nat} {n : Nat} (hn : 1 ≤ n ∧ n ≤ 3) (hz : ∀ o, n ≤ o → g o = 0) : ds_nS g 3 = ds_nS g n := by
  rcases (show n = 1 ∨ n = 2 ∨ n = 3 by omega) with w | w | w <;> subst w <;> simp only [ds_nS] <;> (have h1 := hz 1; have h2 := hz 2; omega)
theorem wpt_in {R : RD} (h : ROK R) {p : Nat} {kd : Int32} {j k : Nat} (hj : j < R.M) (hk : k < R.K) : wpt R p kd (3 * j + k) = ds_nS (fun o => ds_nS (fun k2 => if R.J (3 * j + o) = -2 - nI p ∧ (kd = -1 ∨ kd = nI k2) then wy R j k o k2 else 0) 3) (R.O j) := by
  have hM := h.2.1
  have hK := h.1
  have e1 : (3 * j + k) / 3 = j := by omega
  unfold wpt
  rw [e1, if_pos hj, nS_cut (h.2.2.2.1 j hj) (fun o ho => by
    have : ds_nS (fun k2 => wpT R p kd (3 * j + k) o k2) 3 ≤ 3 * 0 := ds_nS_bd (fun k2 _ => by
      unfold wpT
      rw [e1, if_neg (fun z => absurd z.1 (by omega))]
      exact Nat.le_refl 0)
    omega)]
  refine ds_nS_congr fun o ho => ds_nS_congr fun k2 hk2 => ?_
  unfold wpT
  rw [e1, rYv_at hk2 (by omega) hj hk hM ho]
  by_cases w : R.J (3 * j + o) = -2 - nI p ∧ (kd = -1 ∨ kd = nI k2)
  · rw [if_pos w, if_pos ⟨ho, w⟩]
  · rw [if_neg w, if_neg (fun z => w z.2)]
theorem wpt_out {R : RD} (h : ROK R) {p : Nat} {kd : Int32} {q : Nat} (hn : ¬ inN R q) : wpt R p kd q = 0 := by
  unfold wpt
  split
  · have : ds_nS (fun o => ds_nS (fun k => wpT R p kd q o k) 3) 3 ≤ 3 * (3 * 0) := ds_nS_bd (fun o _ => ds_nS_bd (fun k hk => by
      unfold wpT
      split
      · unfold rYv
        have hq : (9 * (3 * o + k) + q) % 9 = q % 9 := by omega
        by_cases w : q < 9
        · rw [hq, Nat.mod_eq_of_lt w, if_neg hn]; exact Nat.le_refl 0
        · exact absurd ‹q / 3 < R.M› (by have := h.2.1; omega)
      · exact Nat.le_refl 0))
    omega
  · rfl
theorem wpt_one {R : RD} (h : ROK R) {p : Nat} (hp : p < 3) {j k k2 : Nat} (hj : j < R.M) (hk : k < R.K) (hk2 : k2 < 3) : wpt R p (nI k2) (3 * j + k) = rpt R j k p k2 := by
  rw [wpt_in h hj hk]
  unfold rpt
  refine ds_nS_congr fun o ho => ?_
  by_cases w : R.J (3 * j + o) = -2 - nI p
  · have w2 := (m2p hp _).mp w
    rw [if_pos w2]
    have : ∀ i, i < 3 → (if R.J (3 * j + o) = -2 - nI p ∧ (nI k2 = -1 ∨ nI k2 = nI i) then wy R j k o i else 0) = if i = k2 then wy R j k o k2 else 0 := fun i hi => by
      by_cases z : i = k2
      · subst z; rw [if_pos ⟨w, Or.inr rfl⟩, if_pos rfl]
      · rw [if_neg z, if_neg (fun y => y.2.elim (nI_ne_m1 (by omega)) (fun y => z ((nI_eq (by omega) (by omega)).mp y).symm))]
    rw [ds_nS_congr this]
    rcases (show k2 = 0 ∨ k2 = 1 ∨ k2 = 2 by omega) with z | z | z <;> subst z <;> simp [ds_nS]
  · have w2 : ¬ (R.J (3 * j + o)).toInt = -2 - (p : Int) := fun z => w ((m2p hp _).mpr z)
    rw [if_neg w2]
    have : ds_nS (fun k2_1 => if R.J (3 * j + o) = -2 - nI p ∧ (nI k2 = -1 ∨ nI k2 = nI k2_1) then wy R j k o k2_1 else 0) 3 ≤ 3 * 0 := ds_nS_bd (fun i _ => by rw [if_neg (fun z => w z.1)]; exact Nat.le_refl 0)
    omega
theorem wpt_all {R : RD} (h : ROK R) {p : Nat} (hp : p < 3) {j k : Nat} (hj : j < R.M) (hk : k < R.K) : wpt R p (-1) (3 * j + k) = ds_nS (fun k2 => rpt R j k p k2) R.K := by
  have hM := h.2.1
  rw [wpt_in h hj hk]
  have sw : ds_nS (fun k2 => rpt R j k p k2) R.K = ds_nS (fun o => ds_nS (fun k2 => if (R.J (3 * j + o)).toInt = -2 - (p : Int) then wy R j k o k2 else 0) R.K) (R.O j) := by
    unfold rpt
    exact ds_nS_swap _ _ _
  rw [sw]
  refine ds_nS_congr fun o ho => ?_
  rw [nS_cut h.1 (fun k2 h2 => by
    rw [wy_hi h (show j < 3 by omega) hk h2]
    split <;> rfl)]
  refine ds_nS_congr fun k2 _ => ?_
  by_cases w : R.J (3 * j + o) = -2 - nI p
  · rw [if_pos ⟨w, Or.inl rfl⟩, if_pos ((m2p hp _).mp w)]
  · rw [if_neg (fun z => w z.1), if_neg (fun z => w ((m2p hp _).mpr z))]
/-- no more leaves at a port than was fed -/
theorem wpt_col {d : LD} {R : RD} (hO : LOK d) (h : ROK R) (e : REL d R) {p : Nat} (hp : p < 3) (kd : Int32) {j k : Nat} (hj : j < R.M) (hk : k < R.K) : wpt R p kd (3 * j + k) + ds_nS (fun i => rtb R j k (i / 3) (i % 3)) 9 ≤ rwh R j k := by
  have hM := h.2.1
  have hK := h.1
  rw [wpt_in h hj hk, ← wy_sum hO h e hj hk]
  have e5 : ds_nS (fun i => rtb R j k (i / 3) (i % 3)) 9 = ds_nS (fun o => ds_nS (fun i => if (R.J (3 * j + o)).toInt = ((i / 3 : Nat) : Int) then wy R j k o (i % 3) else 0) 9) (R.O j) := by
    unfold rtb
    exact ds_nS_swap _ _ _
  rw [e5, ← ds_nS_add]
  refine ds_nS_mono fun o ho => ?_
  have hz : ∀ k2, R.K ≤ k2 → wy R j k o k2 = 0 := fun k2 h2 => wy_hi h (by omega) hk h2
  simp only [m2p hp]
  generalize (R.J (3 * j + o)).toInt = J0
  generalize hwf : wy R j k o = wf at *
  have e6 : ds_nS wf R.K = wf 0 + wf 1 + wf 2 := by
    rcases (show R.K = 1 ∨ R.K = 2 ∨ R.K = 3 by omega) with z | z | z <;> rw [z] <;> simp only [ds_nS] <;> (have z1 := hz 1; have z2 := hz 2; omega)
  show _ ≤ ds_nS wf R.K
  rw [e6]
  by_cases c : 0 ≤ J0
  · have a1 : ds_nS (fun k2 => if J0 = -2 - (p : Int) ∧ (kd = -1 ∨ kd = nI k2) then wf k2 else 0) 3 ≤ 3 * 0 := ds_nS_bd (fun i _ => by rw [if_neg (fun z => by omega)]; exact Nat.le_refl 0)
    have e7 : ds_nS (fun i => if J0 = ((i / 3 : Nat) : Int) then wf (i % 3) else 0) 9 ≤ wf 0 + wf 1 + wf 2 := by
      simp only [ds_nS]
      by_cases c0 : J0 = 0
      · subst c0; simp
      · by_cases c1 : J0 = 1
        · subst c1; simp
        · by_cases c2 : J0 = 2
          · subst c2; simp
          · simp [c0, c1, c2]
    omega
  · have a1 : ds_nS (fun i => if J0 = ((i / 3 : Nat) : Int) then wf (i % 3) else 0) 9 ≤ 9 * 0 := ds_nS_bd (fun i _ => by rw [if_neg (fun z => by omega)]; exact Nat.le_refl 0)
    have a2 : ds_nS (fun k2 => if J0 = -2 - (p : Int) ∧ (kd = -1 ∨ kd = nI k2) then wf k2 else 0) 3 ≤ ds_nS wf 3 := ds_nS_mono fun i _ => by split <;> omega
    have a3 : ds_nS wf 3 = wf 0 + wf 1 + wf 2 := by simp only [ds_nS]; omega
    omega
theorem ds_S_mono {f g : Nat → Int} : ∀ {n : Nat}, (∀ i, i < n → f i ≤ g i) → ds_S f n ≤ ds_S g n
  | 0, _ => Int.le_refl _
  | n + 1, h => Int.add_le_add (ds_S_mono (fun i hi => h i (by omega))) (h n (by omega))
theorem ds_S_comm (f : Nat → Nat → Int) (n : Nat) : ∀ m : Nat, ds_S (fun i => ds_S (fun j => f i j) n) m = ds_S (fun j => ds_S (fun i => f i j) m) n
  | 0 => (ds_S_zero (fun _ _ => rfl)).symm
  | m + 1 => by
    show ds_S (fun i => ds_S (fun j => f i j) n) m + ds_S (fun j => f m j) n = _
    rw [ds_S_comm f n m, ← ds_S_add]
    rfl
theorem STD.con {R : RD} (hS : STD R) {p : Nat} (hp : p < 3) (kd : Int32) : rAm R (wpt R p kd) ≤ 9000000 * rDT R := by
  obtain ⟨h, d, F, hO, e, hA, hG⟩ := id hS
  have hM := h.2.1
  have hK := h.1
  have hgood := hS.good (rfd R)
  have hcol : ∀ q, q < 9 → (wpt R p kd q : Int) ≤ ds_S (fun i => rBf R (rfd R) i q) 9 := fun q hq => by
    by_cases w : inN R q
    · have key := wpt_col hO h e hp kd w.1 w.2
      rw [show 3 * (q / 3) + q % 3 = q by omega] at key
      have e1 : ds_S (fun i => rBf R (rfd R) i q) 9 = ds_S (fun i => (if i = q then (rwh R (q / 3) (q % 3) : Int) else 0)) 9 - ds_S (fun i => ((rtb R (q / 3) (q % 3) (i / 3) (i % 3) : Nat) : Int)) 9 := by
        rw [← ds_S_sub]
        refine ds_S_congr fun i hi => ?_
        unfold rBf rB
        rw [if_pos hq, if_pos w]
      have e2 : ds_S (fun i => (if i = q then (rwh R (q / 3) (q % 3) : Int) else 0)) 9 = (rwh R (q / 3) (q % 3) : Int) := by
        rw [ds_S_split _ q hq, if_pos rfl, ds_S_zero (fun i _ => by split <;> rfl)]; omega
      rw [e1, e2, ds_S_nat]
      omega
    · rw [wpt_out h w]
      exact hgood.2.1 q hq
  have hz : ∀ q, q < 9 → (0 : Int) ≤ ds_C (rBf R (rfd R)) 9 q 9 := fun q hq => by rw [← hS.z (rfd R) hq (Nat.le_refl _)]; omega
  have s1 : (rAm R (wpt R p kd) : Int) ≤ ds_S (fun q => ds_S (fun i => rBf R (rfd R) i q) 9 * ds_C (rBf R (rfd R)) 9 q 9) 9 := by
    unfold rAm
    rw [← ds_S_nat]
    refine ds_S_mono fun q hq => ?_
    rw [Int.natCast_mul, hS.z (rfd R) hq (Nat.le_refl _)]
    exact Int.mul_le_mul_of_nonneg_right (hcol q hq) (hz q hq)
  have s2 : ds_S (fun q => ds_S (fun i => rBf R (rfd R) i q) 9 * ds_C (rBf R (rfd R)) 9 q 9) 9 = ds_S (fun i => (R.F i : Int) * (rDT R : Int)) 9 := by
    have a1 : ∀ q, q < 9 → ds_S (fun i => rBf R (rfd R) i q) 9 * ds_C (rBf R (rfd R)) 9 q 9 = ds_S (fun i => rBf R (rfd R) i q * ds_C (rBf R (rfd R)) 9 q 9) 9 := fun q _ => by
      rw [Int.mul_comm, ← ds_S_mul]
      exact ds_S_congr fun i _ => Int.mul_comm _ _
    rw [ds_S_congr a1, ds_S_comm]
    refine ds_S_congr fun i hi => ?_
    rw [ds_C_solves (rBf R (rfd R)) 9 i 9 hi, (hS.d (rfd R)).1]
    congr 1
  have s3 : ds_S (fun i => (R.F i : Int) * (rDT R : Int)) 9 ≤ 9000000 * (rDT R : Int) := by
    have b1 : ds_S (fun i => (R.F i : Int) * (rDT R : Int)) 9 = ((ds_nS (fun i => R.F i * rDT R) 9 : Nat) : Int) := by
      rw [← ds_S_nat]
      exact ds_S_congr fun i _ => (Int.natCast_mul _ _).symm
    have b2 := ds_nS_bd (f := fun i => R.F i * rDT R) (c := 1000000 * rDT R) (n := 9) (fun i hi => Nat.mul_le_mul_right _ (h.2.2.2.2.2.2.2.2.2 i hi))
    rw [b1]
    omega
  omega
theorem STD.q62 {R : RD} (hS : STD R) {p : Nat} (hp : p < 3) (kd : Int32) : rAm R (wpt R p kd) / rDT R < 2 ^ 62 := by
  have h1 := hS.con hp kd
  have h2 : rAm R (wpt R p kd) / rDT R ≤ 9000000 * rDT R / rDT R := Nat.div_le_div_right h1
  rw [Nat.mul_div_cancel _ (hS.d (rfd R)).2] at h2
  omega
