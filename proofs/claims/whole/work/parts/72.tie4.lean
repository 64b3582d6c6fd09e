/-! What gets away: every set of rows has a way out. -/
def gcl (d : LD) (S : Nat → Prop) : Prop := ∀ j k o k2, j < d.1.2.1 → k < d.1.1 → o < d.2.1 j → k2 < d.1.1 → 0 < cU d j k o k2 → ((d.2.2.1 (3 * j + o)).toInt < 0 ∨ S ((d.2.2.1 (3 * j + o)).toInt.toNat * d.1.1 + k2)) → S (j * d.1.1 + k)
def gts (d : LD) (r : Nat) : Prop := ∀ S : Nat → Prop, gcl d S → S r
theorem lvas_ex {d : LD} {st : Nat → Bool} {j k : Nat} : ∀ {n : Nat}, lvas d st j k n = true → ∃ o, o < n ∧ 0 < d.2.2.2.1 (3 * (j * d.1.1 + k) + o) ∧ ((d.2.2.1 (3 * j + o)).toInt < 0 ∨ st ((d.2.2.1 (3 * j + o)).toInt.toNat * d.1.1 + k) = true)
  | 0, h => by cases h
  | n + 1, h => by
    have h : (lvas d st j k n || (decide (0 < d.2.2.2.1 (3 * (j * d.1.1 + k) + n)) && (decide ((d.2.2.1 (3 * j + n)).toInt < 0) || st ((d.2.2.1 (3 * j + n)).toInt.toNat * d.1.1 + k)))) = true := h
    rcases Bool.or_eq_true _ _ |>.mp h with q | q
    · obtain ⟨o, h1, h2⟩ := lvas_ex q
      exact ⟨o, by omega, h2⟩
    · obtain ⟨q1, q2⟩ := Bool.and_eq_true _ _ |>.mp q
      refine ⟨n, by omega, of_decide_eq_true q1, ?_⟩
      rcases Bool.or_eq_true _ _ |>.mp q2 with w | w
      · exact Or.inl (of_decide_eq_true w)
      · exact Or.inr w
theorem gts_step {d : LD} {j k o k2 : Nat} (hj : j < d.1.2.1) (hk : k < d.1.1) (ho : o < d.2.1 j) (hk2 : k2 < d.1.1) (hc : 0 < cU d j k o k2) (h : (d.2.2.1 (3 * j + o)).toInt < 0 ∨ gts d ((d.2.2.1 (3 * j + o)).toInt.toNat * d.1.1 + k2)) : gts d (j * d.1.1 + k) := fun S hS => hS j k o k2 hj hk ho hk2 hc (by
  rcases h with q | q
  · exact Or.inl q
  · exact Or.inr (q S hS))
theorem spr1_gts {d : LD} (hO : LOK d) {st : Nat → Bool} (h : ∀ r, st r = true → gts d r) {j k : Nat} (hj : j < d.1.2.1) (hk : k < d.1.1) : ∀ r, spr1 d st j k r = true → gts d r := by
  have hrw := row_lt hO.1.2 hO.2.1 hj hk
  have hbe := hO.2.2.2.2.2.2.2.1 _ hrw
  have hcr := hO.2.2.2.2.2.2.1 _ hrw
  have ha : ∀ r, spr1a d st j k r = true → gts d r := fun r hr => by
    unfold spr1a at hr
    by_cases w : d.2.2.2.2.1 (j * d.1.1 + k) < 27720 ∧ lvas d st j k (d.2.1 j) = true
    · rw [if_pos w] at hr
      by_cases e : r = j * d.1.1 + k
      · subst e
        obtain ⟨o, h1, h2, h3⟩ := lvas_ex w.2
        refine gts_step hj hk h1 hk ?_ (h3.imp id (h _))
        unfold cU
        rw [if_pos rfl]
        exact Nat.lt_of_lt_of_le (Nat.mul_pos (by omega) h2) (Nat.le_add_right _ _)
      · rw [va_up_ne _ _ e] at hr; exact h r hr
    · rw [if_neg w] at hr; exact h r hr
  intro r hr
  unfold spr1 at hr
  by_cases w : 0 < d.2.2.2.2.1 (j * d.1.1 + k) ∧ lvas d (spr1a d st j k) j (d.2.2.2.2.2.1 (j * d.1.1 + k)) (d.2.1 j) = true
  · rw [if_pos w] at hr
    by_cases e : r = j * d.1.1 + k
    · subst e
      obtain ⟨o, h1, h2, h3⟩ := lvas_ex w.2
      refine gts_step hj hk h1 hbe ?_ (h3.imp id (ha _))
      unfold cU
      rw [if_pos (rfl : d.2.2.2.2.2.1 (j * d.1.1 + k) = d.2.2.2.2.2.1 (j * d.1.1 + k))]
      exact Nat.lt_of_lt_of_le (Nat.mul_pos w.1 h2) (Nat.le_add_left _ _)
    · rw [va_up_ne _ _ e] at hr; exact ha r hr
  · rw [if_neg w] at hr; exact ha r hr
theorem sprK_gts {d : LD} (hO : LOK d) {st : Nat → Bool} (h : ∀ r, st r = true → gts d r) {j : Nat} (hj : j < d.1.2.1) : ∀ n, n ≤ d.1.1 → ∀ r, sprK d st j n r = true → gts d r
  | 0, _ => h
  | n + 1, hn => spr1_gts hO (sprK_gts hO h hj n (by omega)) hj (by omega)
theorem sprM_gts {d : LD} (hO : LOK d) {st : Nat → Bool} (h : ∀ r, st r = true → gts d r) : ∀ n, n ≤ d.1.2.1 → ∀ r, sprM d st n r = true → gts d r
  | 0, _ => h
  | n + 1, hn => sprK_gts hO (sprM_gts hO h n (by omega)) (by omega) d.1.1 (Nat.le_refl _)
theorem rnds_gts {d : LD} (hO : LOK d) : ∀ n r, rnds d n r = true → gts d r
  | 0, _, h => by cases h
  | n + 1, r, h => sprM_gts hO (rnds_gts hO n) d.1.2.1 (Nat.le_refl _) r h
theorem stands_gts {d : LD} (hO : LOK d) (h : stands d) {j k : Nat} (hj : j < d.1.2.1) (hk : k < d.1.1) : gts d (j * d.1.1 + k) := by
  refine rnds_gts hO 9 _ ?_
  cases q : rnds d 9 (j * d.1.1 + k) with
  | true => rfl
  | false => exact absurd ⟨k, hk, q⟩ (h j hj)
/-- sums of numbers, once as Nat and once as Int -/
theorem ds_S_nat (f : Nat → Nat) : ∀ n : Nat, ds_S (fun i => (f i : Int)) n = (ds_nS f n : Int)
  | 0 => rfl
  | n + 1 => by
    show ds_S (fun i => (f i : Int)) n + (f n : Int) = ((ds_nS f n + f n : Nat) : Int)
    rw [ds_S_nat f n]; omega
/-- the column's divisor is large -/
theorem g4' : ∀ a, a < 12 → ∀ b, b < 12 → ∀ c, c < 12 → ∀ e, e < 12 → 4 ≤ Nat.gcd (Nat.gcd (27720 / (a + 1)) (27720 / (b + 1))) (Nat.gcd (27720 / (c + 1)) (27720 / (e + 1))) := by decide +kernel
theorem g4 (a b c e : Nat) (ha : 1 ≤ a ∧ a ≤ 12) (hb : 1 ≤ b ∧ b ≤ 12) (hc : 1 ≤ c ∧ c ≤ 12) (he : 1 ≤ e ∧ e ≤ 12) : 4 ≤ Nat.gcd (Nat.gcd (27720 / a) (27720 / b)) (Nat.gcd (27720 / c) (27720 / e)) := by
  have := g4' (a - 1) (by omega) (b - 1) (by omega) (c - 1) (by omega) (e - 1) (by omega)
  rw [show a - 1 + 1 = a by omega, show b - 1 + 1 = b by omega, show c - 1 + 1 = c by omega, show e - 1 + 1 = e by omega] at this
  exact this
theorem g2310 : ∀ a, a < 13 → 1 ≤ a → 2310 ≤ 27720 / a := by decide
theorem g_ge {d : LD} {R : RD} (h : ROK R) (e : REL d R) {j k g : Nat} (hj : j < d.1.2.1) (hk : k < d.1.1) (hg1 : 1 ≤ g) (hg : ∀ w, (∀ t, fk t → w ∣ colD d j k t) → w ∣ g) : 9240 ≤ g := by
  obtain ⟨e1, e2, e3, e4, e5, -⟩ := e
  have eK : d.1.1 = R.K := by rw [e1]
  have eM : d.1.2.1 = R.M := by rw [e1]
  rw [eM] at hj
  rw [eK] at hk
  have hM := h.2.1
  have hK := h.1
  have hc := h.2.2.2.2.2.2.2.1 (3 * j + k) (by omega)
  obtain ⟨c1, c2, -⟩ := e5 j k hj hk
  have b0 := (h.2.2.2.2.2.1 (2 * (3 * j + k)) (by omega)).1
  have b1 := (h.2.2.2.2.2.1 (2 * (3 * j + k) + 1) (by omega)).1
  have b2 := (h.2.2.2.2.2.1 (2 * (3 * j + R.T (3 * j + k))) (by omega)).1
  have b3 := (h.2.2.2.2.2.1 (2 * (3 * j + R.T (3 * j + k)) + 1) (by omega)).1
  have hG := g4 _ _ _ _ b0 b1 b2 b3
  have hE := g2310 _ (show R.E (3 * j + k) < 13 by omega) hc.2.1.1
  have dv : ∀ {G b : Nat}, 1 ≤ b ∧ b ≤ 12 → G ∣ 27720 / b → G ∣ 27720 := fun hb hd => by
    rw [← u_b hb]; exact Nat.dvd_trans hd ⟨_, Nat.mul_comm _ _⟩
  have dsh : ∀ {G k : Nat}, k < 3 → G ∣ 27720 / R.B (2 * (3 * j + k)) → G ∣ 27720 / R.B (2 * (3 * j + k) + 1) → ∀ o, G ∣ shU R j k o := fun {G k} hk3 h0 h1 o => by
    have h27 := dv (h.2.2.2.2.2.1 (2 * (3 * j + k)) (by omega)).1 h0
    have u0 : G ∣ rU (R.A (2 * (3 * j + k))) (R.B (2 * (3 * j + k))) := Nat.dvd_trans h0 ⟨_, Nat.mul_comm _ _⟩
    have u1 : G ∣ rU (R.A (2 * (3 * j + k) + 1)) (R.B (2 * (3 * j + k) + 1)) := Nat.dvd_trans h1 ⟨_, Nat.mul_comm _ _⟩
    have ite0 : ∀ (p : Prop) [Decidable p] (x : Nat), G ∣ x → G ∣ (if p then x else 0) := fun p _ x hx => by
      by_cases w : p
      · rw [if_pos w]; exact hx
      · rw [if_neg w]; exact Nat.dvd_zero G
    unfold shU
    by_cases w : o + 1 = R.O j
    · rw [if_pos w]
      exact Nat.dvd_sub (Nat.dvd_sub h27 (ite0 _ _ u0)) (ite0 _ _ u1)
    · rw [if_neg w]
      by_cases w2 : o = 0
      · rw [if_pos w2]; exact u0
      · rw [if_neg w2]; exact u1
  generalize hGe : Nat.gcd (Nat.gcd (27720 / R.B (2 * (3 * j + k))) (27720 / R.B (2 * (3 * j + k) + 1))) (Nat.gcd (27720 / R.B (2 * (3 * j + R.T (3 * j + k)))) (27720 / R.B (2 * (3 * j + R.T (3 * j + k)) + 1))) = G at hG
  have G0 : G ∣ 27720 / R.B (2 * (3 * j + k)) := by rw [← hGe]; exact Nat.dvd_trans (Nat.gcd_dvd_left _ _) (Nat.gcd_dvd_left _ _)
  have G1 : G ∣ 27720 / R.B (2 * (3 * j + k) + 1) := by rw [← hGe]; exact Nat.dvd_trans (Nat.gcd_dvd_left _ _) (Nat.gcd_dvd_right _ _)
  have G2 : G ∣ 27720 / R.B (2 * (3 * j + R.T (3 * j + k))) := by rw [← hGe]; exact Nat.dvd_trans (Nat.gcd_dvd_right _ _) (Nat.gcd_dvd_left _ _)
  have G3 : G ∣ 27720 / R.B (2 * (3 * j + R.T (3 * j + k)) + 1) := by rw [← hGe]; exact Nat.dvd_trans (Nat.gcd_dvd_right _ _) (Nat.gcd_dvd_right _ _)
  have G27 := dv b0 G0
  have s1 := dsh (k := k) (by omega) G0 G1
  have s2 := dsh (k := R.T (3 * j + k)) (by omega) G2 G3
  have eb := u_b hc.2.1
  have w := hg (27720 / R.E (3 * j + k) * G) (fun t _ => by
    rw [colD_at, eK, c1, c2, e2 j hj]
    unfold rU
    have d1 : 27720 - R.C (3 * j + k) * (27720 / R.E (3 * j + k)) = (R.E (3 * j + k) - R.C (3 * j + k)) * (27720 / R.E (3 * j + k)) := by rw [Nat.sub_mul, eb]
    rw [d1]
    have m1 : ∀ x y : Nat, G ∣ y → 27720 / R.E (3 * j + k) * G ∣ x * (27720 / R.E (3 * j + k)) * y := fun x y hy => by
      rw [Nat.mul_assoc]
      exact Nat.dvd_trans (Nat.mul_dvd_mul (Nat.dvd_refl _) hy) ⟨x, Nat.mul_comm _ _⟩
    have ite0 : ∀ (p : Prop) [Decidable p] (x : Nat), 27720 / R.E (3 * j + k) * G ∣ x → 27720 / R.E (3 * j + k) * G ∣ (if p then x else 0) := fun p _ x hx => by
      by_cases w : p
      · rw [if_pos w]; exact hx
      · rw [if_neg w]; exact Nat.dvd_zero _
    have nS : ∀ (f : Nat → Nat) (n : Nat), (∀ o, o < n → 27720 / R.E (3 * j + k) * G ∣ f o) → 27720 / R.E (3 * j + k) * G ∣ ds_nS f n := by
      intro f n
      induction n with
      | zero => intro _; exact Nat.dvd_zero _
      | succ n ih => intro q; exact Nat.dvd_add (ih (fun o ho => q o (by omega))) (q n (by omega))
    refine Nat.dvd_add (Nat.dvd_add ?_ (Nat.dvd_add (ite0 _ _ (m1 _ _ G27)) (ite0 _ _ (m1 _ _ G27)))) (Nat.dvd_add (nS _ _ fun o ho => ite0 _ _ (m1 _ _ ?_)) (nS _ _ fun o ho => ite0 _ _ (m1 _ _ ?_)))
    · unfold C0
      refine ite0 _ _ ?_
      have := m1 (R.E (3 * j + k)) 27720 G27
      rw [eb] at this
      exact this
    · rw [e4 j k o hj hk ho]; exact s1 o
    · rw [e4 j _ o hj hc.1 ho]; exact s2 o)
  have h1 := Nat.le_of_dvd hg1 w
  have h2 : 2310 * 4 ≤ 27720 / R.E (3 * j + k) * G := Nat.mul_le_mul hE hG
  omega
/-- all that is owed of a line that stands -/
theorem FG_of {d : LD} {R : RD} (hO : LOK d) (h : ROK R) (e : REL d R) (hst : stands d) {F : Nat → Nat → Nat} (hA : RA d F (d.1.2.1 * d.1.1)) : FG (d.1.2.1 * d.1.1) F := by
  have hS := e.shs h
  have hB := LB_of hO hS
  have hn9 : d.1.2.1 * d.1.1 ≤ 9 := Nat.mul_le_mul hO.2.1 hO.1.2
  -- the columns
  have col : ∀ r, r < d.1.2.1 * d.1.1 → ∃ j k g, j < d.1.2.1 ∧ k < d.1.1 ∧ r = j * d.1.1 + k ∧ 9240 ≤ g ∧ ∀ t, fk t → g * F t r = colD d j k t := fun r hr => by
    obtain ⟨j, k, hj, hk, rfl⟩ := row_of hr
    obtain ⟨g, hg1, hgc, hgw⟩ := hA j k hj hk hr
    exact ⟨j, k, g, hj, hk, rfl, g_ge h e hj hk hg1 hgw, hgc⟩
  have fm : ∀ i, i < d.1.2.1 * d.1.1 → fk (17 + i) := fun i hi => Or.inr (Or.inl ⟨by omega, by omega⟩)
  have sumF : ∀ {g r j k : Nat}, r < d.1.2.1 * d.1.1 → (∀ t, fk t → g * F t r = colD d j k t) → g * ds_nS (fun i => F (17 + i) r) (d.1.2.1 * d.1.1) = ds_nS (fun i => colD d j k (17 + i)) (d.1.2.1 * d.1.1) := fun hr hc => by
    rw [← ds_nS_lmul]
    exact ds_nS_congr fun i hi => hc _ (fm i hi)
  have leak : ∀ r, r < d.1.2.1 * d.1.1 → ds_nS (fun i => F (17 + i) r) (d.1.2.1 * d.1.1) ≤ F 15 r := fun r hr => by
    obtain ⟨j, k, g, hj, hk, -, hg, hc⟩ := col r hr
    obtain ⟨f, f1, f2, -⟩ := col_tot hO hj hk hn9 (m := 0) (by omega)
    have h1 := ds_nS_mono f2
    rw [xO_sum hO hS hj hk, ← f1] at h1
    have h15 := hc 15 (Or.inl rfl)
    rw [colD_15] at h15
    refine Nat.le_of_mul_le_mul_left ?_ (show 0 < g by omega)
    rw [sumF hr hc, h15]
    have : ds_nS (fun r => colD d j k (27 + r)) 0 = 0 := rfl
    omega
  have csum : ∀ (f : Nat → Nat → Nat) r, r < d.1.2.1 * d.1.1 → ds_S (fun i => am F (d.1.2.1 * d.1.1) f i r) (d.1.2.1 * d.1.1) = (F 15 r : Int) - (ds_nS (fun i => F (17 + i) r) (d.1.2.1 * d.1.1) : Int) := fun f r hr => by
    have e1 : ds_S (fun i => am F (d.1.2.1 * d.1.1) f i r) (d.1.2.1 * d.1.1) = ds_S (fun i => (if i = r then (F 15 r : Int) else 0) - ((F (17 + i) r : Nat) : Int)) (d.1.2.1 * d.1.1) := ds_S_congr fun i hi => by
      show (if r < d.1.2.1 * d.1.1 then (if i = r then (F 15 i : Int) - (F (17 + i) i : Int) else -(F (17 + i) r : Int)) else _) = _
      rw [if_pos hr]
      by_cases w : i = r
      · subst w; rw [if_pos rfl, if_pos rfl]
      · rw [if_neg w, if_neg w]; omega
    rw [e1, ds_S_sub, ds_S_nat]
    congr 1
    have : ∀ (x : Int) (m : Nat), r < m → ds_S (fun s => if s = r then x else 0) m = x := by
      intro x m
      induction m with
      | zero => intro h; omega
      | succ m ih =>
        intro h
        show ds_S (fun s => if s = r then x else 0) m + (if m = r then x else 0) = x
        by_cases w : m = r
        · rw [if_pos w, ds_S_zero (fun s hs => if_neg (by omega))]; omega
        · rw [if_neg w, ih (by omega)]; omega
    exact this _ _ hr
  have off : ∀ (f : Nat → Nat → Nat) i r, i < d.1.2.1 * d.1.1 → r < d.1.2.1 * d.1.1 → i ≠ r → am F (d.1.2.1 * d.1.1) f i r = -(F (17 + i) r : Int) := fun f i r _ hr hne => by
    unfold am
    rw [if_pos hr, if_neg hne]
  refine ⟨fun f => ⟨fun i r hi hr hne => ?_, fun r hr => ?_, fun S hSx => ?_⟩, fun t ht r hr => ?_, leak⟩
  · rw [off f i r hi hr hne]; omega
  · rw [csum f r hr]
    have := leak r hr
    omega
  · refine Classical.byContradiction fun hno => ?_
    obtain ⟨r0, hr0, hs0⟩ := hSx
    have hno1 : ∀ r, r < d.1.2.1 * d.1.1 → S r → ¬ 0 < ds_S (fun i => am F (d.1.2.1 * d.1.1) f i r) (d.1.2.1 * d.1.1) := fun r hr hs q => hno ⟨r, hr, hs, Or.inl q⟩
    have hno2 : ∀ r, r < d.1.2.1 * d.1.1 → S r → ∀ i, i < d.1.2.1 * d.1.1 → ¬ S i → ¬ am F (d.1.2.1 * d.1.1) f i r < 0 := fun r hr hs i hi hn q => hno ⟨r, hr, hs, Or.inr ⟨i, hi, hn, q⟩⟩
    obtain ⟨j0, k0, hj0, hk0, er0⟩ := row_of hr0
    have := stands_gts hO hst hj0 hk0 (fun r => ¬ S r) (fun j k o k2 hj hk ho hk2 hc hto hs => by
      have hr : j * d.1.1 + k < d.1.2.1 * d.1.1 := by
        have := Nat.mul_le_mul_right d.1.1 (show j + 1 ≤ d.1.2.1 from hj)
        rw [Nat.add_mul, Nat.one_mul] at this
        omega
      have hou := hO.2.2.2.1 j hj
      have hM3 := hO.2.1
      obtain ⟨g, hg1, hgc, -⟩ := hA j k hj hk hr
      have hgc : ∀ t, fk t → g * F t (j * d.1.1 + k) = colD d j k t := hgc
      rcases hto with hto | hto
      · refine hno1 _ hr hs ?_
        rw [csum f _ hr]
        obtain ⟨fo, f1, f2, f3⟩ := col_tot hO hj hk hn9 (m := 0) (by omega)
        have h1 := nS_less ho f2 (f3 o ho hto rfl)
        rw [xO_sum hO hS hj hk, ← f1] at h1
        have h2 := cU_le (d := d) (j := j) (k := k) (o := o) (k2 := k2)
        have h15 := hgc 15 (Or.inl rfl)
        rw [colD_15] at h15
        have h3 := sumF hr hgc
        have h4 : ds_nS (fun r => colD d j k (27 + r)) 0 = 0 := rfl
        have h5 : g * ds_nS (fun i => F (17 + i) (j * d.1.1 + k)) (d.1.2.1 * d.1.1) < g * F 15 (j * d.1.1 + k) := by omega
        have h6 := Nat.lt_of_mul_lt_mul_left h5
        omega
      · have hjo := hO.2.2.2.2.1 (3 * j + o) (by omega)
        unfold jOK at hjo
        by_cases hneg : (d.2.2.1 (3 * j + o)).toInt < 0
        · -- as above
          refine hno1 _ hr hs ?_
          rw [csum f _ hr]
          obtain ⟨fo, f1, f2, f3⟩ := col_tot hO hj hk hn9 (m := 0) (by omega)
          have h1 := nS_less ho f2 (f3 o ho hneg rfl)
          rw [xO_sum hO hS hj hk, ← f1] at h1
          have h2 := cU_le (d := d) (j := j) (k := k) (o := o) (k2 := k2)
          have h15 := hgc 15 (Or.inl rfl)
          rw [colD_15] at h15
          have h3 := sumF hr hgc
          have h4 : ds_nS (fun r => colD d j k (27 + r)) 0 = 0 := rfl
          have h5 : g * ds_nS (fun i => F (17 + i) (j * d.1.1 + k)) (d.1.2.1 * d.1.1) < g * F 15 (j * d.1.1 + k) := by omega
          have h6 := Nat.lt_of_mul_lt_mul_left h5
          omega
        · have hi : (d.2.2.1 (3 * j + o)).toInt.toNat < d.1.2.1 := by omega
          have hr2 : (d.2.2.1 (3 * j + o)).toInt.toNat * d.1.1 + k2 < d.1.2.1 * d.1.1 := by
            have := Nat.mul_le_mul_right d.1.1 (show (d.2.2.1 (3 * j + o)).toInt.toNat + 1 ≤ d.1.2.1 from hi)
            rw [Nat.add_mul, Nat.one_mul] at this
            omega
          have hne : (d.2.2.1 (3 * j + o)).toInt.toNat * d.1.1 + k2 ≠ j * d.1.1 + k := fun q => hto (by rw [q]; exact hs)
          refine hno2 _ hr hs _ hr2 hto ?_
          rw [off f _ _ hr2 hr hne]
          have h1 := colD_m hO hj hk hi hk2
          have h2 := ds_nS_one (g := fun o' => if (d.2.2.1 (3 * j + o')).toInt = ((d.2.2.1 (3 * j + o)).toInt.toNat : Int) then cU d j k o' k2 else 0) (k := 0) (i := o) (n := d.2.1 j) (by omega) ho
          have h3 : ds_nS (fun o' => if (d.2.2.1 (3 * j + o')).toInt = ((d.2.2.1 (3 * j + o)).toInt.toNat : Int) then cU d j k o' k2 else 0) 0 + (if (d.2.2.1 (3 * j + o)).toInt = ((d.2.2.1 (3 * j + o)).toInt.toNat : Int) then cU d j k o k2 else 0) ≤ ds_nS (fun o' => if (d.2.2.1 (3 * j + o')).toInt = ((d.2.2.1 (3 * j + o)).toInt.toNat : Int) then cU d j k o' k2 else 0) (d.2.1 j) := h2
          rw [if_pos (by omega), ← h1, ← hgc _ (fm _ hr2)] at h3
          rcases Nat.eq_zero_or_pos (F (17 + ((d.2.2.1 (3 * j + o)).toInt.toNat * d.1.1 + k2)) (j * d.1.1 + k)) with q | q
          · rw [q, Nat.mul_zero] at h3; omega
          · omega)
    rw [← er0] at this
    exact this hs0
  · obtain ⟨j, k, g, hj, hk, -, hg, hc⟩ := col r hr
    have h1 := hc t ht
    have h2 := hB j k hj hk t ht
    have h3 : 9240 * F t r ≤ g * F t r := Nat.mul_le_mul_right _ hg
    omega
