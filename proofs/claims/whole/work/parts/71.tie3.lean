theorem nS_hit (a x t : Nat) : ∀ n : Nat, ds_nS (fun r => if t = a + r then x else 0) n = if a ≤ t ∧ t < a + n then x else 0
  | 0 => by rw [if_neg (by omega)]; rfl
  | n + 1 => by
    show ds_nS (fun r => if t = a + r then x else 0) n + (if t = a + n then x else 0) = _
    rw [nS_hit a x t n]
    by_cases w : t = a + n
    · rw [if_pos w, if_neg (by omega), if_pos (by omega)]; omega
    · rw [if_neg w]
      by_cases w2 : a ≤ t ∧ t < a + n
      · rw [if_pos w2, if_pos (by omega)]; rfl
      · rw [if_neg w2, if_neg (by omega)]
theorem nS_less {f g : Nat → Nat} {n o : Nat} (ho : o < n) (h : ∀ i, i < n → f i ≤ g i) (hf : f o = 0) : ds_nS f n + g o ≤ ds_nS g n := by
  have h1 : ds_nS (fun i => f i + if i = o then g o else 0) n ≤ ds_nS g n := ds_nS_mono fun i hi => by
    by_cases w : i = o
    · subst w; rw [if_pos rfl, hf]; omega
    · rw [if_neg w]; exact h i hi
  rw [ds_nS_add] at h1
  have h2 := nS_hit 0 (g o) o n
  rw [if_pos (by omega)] at h2
  have h3 : ds_nS (fun i => if i = o then g o else 0) n = ds_nS (fun r => if o = 0 + r then g o else 0) n := ds_nS_congr fun i _ => by
    by_cases w : i = o
    · rw [if_pos w, if_pos (by omega)]
    · rw [if_neg w, if_neg (by omega)]
  omega
theorem tgt_rg {d : LD} (hO : LOK d) {j k o : Nat} (hj : j < d.1.2.1) (ho : o < 3) (hk : k < d.1.1) : tgt d j k o = 0 ∨ (17 ≤ tgt d j k o ∧ tgt d j k o < 26 ∧ 0 ≤ (d.2.2.1 (3 * j + o)).toInt) ∨ (27 ≤ tgt d j k o ∧ tgt d j k o < 36) := by
  have hK := hO.1
  have hM := hO.2.1
  have hP := hO.2.2.1
  have hjo := hO.2.2.2.2.1 (3 * j + o) (by omega)
  unfold tgt
  unfold jOK at hjo
  by_cases w : 0 ≤ (d.2.2.1 (3 * j + o)).toInt
  · rw [if_pos w]
    have hr2 := row_lt (K := d.1.1) (j := (d.2.2.1 (3 * j + o)).toInt.toNat) hK.2 hM (by omega) hk
    omega
  · rw [if_neg w]
    by_cases w2 : (d.2.2.1 (3 * j + o)).toInt ≤ -2
    · rw [if_pos w2]
      have hr2 := row_lt (K := d.1.1) (j := (-2 - (d.2.2.1 (3 * j + o)).toInt).toNat) hK.2 hP (by omega) hk
      omega
    · rw [if_neg w2]; exact Or.inl rfl
/-- every row's shares are 1 together -/
def SHS (d : LD) : Prop := ∀ j k, j < d.1.2.1 → k < d.1.1 → ds_nS (fun o => d.2.2.2.1 (3 * (j * d.1.1 + k) + o)) (d.2.1 j) = 27720
theorem REL.shs {d : LD} {R : RD} (h : ROK R) (e : REL d R) : SHS d := fun j k hj hk => by
  obtain ⟨e1, e2, e3, e4, -⟩ := e
  have eK : d.1.1 = R.K := by rw [e1]
  have eM : d.1.2.1 = R.M := by rw [e1]
  rw [eM] at hj
  rw [eK] at hk ⊢
  rw [e2 j hj, ← sh_sum h (k := k) hj (by have := h.1; omega)]
  exact ds_nS_congr fun o ho => e4 j k o hj hk ho
/-- all of a row at one out -/
def xO (d : LD) (j k o : Nat) : Nat := (27720 - d.2.2.2.2.1 (j * d.1.1 + k)) * d.2.2.2.1 (3 * (j * d.1.1 + k) + o) + d.2.2.2.2.1 (j * d.1.1 + k) * d.2.2.2.1 (3 * (j * d.1.1 + d.2.2.2.2.2.1 (j * d.1.1 + k)) + o)
theorem xO_sum {d : LD} (hO : LOK d) (hS : SHS d) {j k : Nat} (hj : j < d.1.2.1) (hk : k < d.1.1) : ds_nS (fun o => xO d j k o) (d.2.1 j) = 768398400 := by
  have hr := row_lt hO.1.2 hO.2.1 hj hk
  have hcr := hO.2.2.2.2.2.2.1 _ hr
  have hbe := hO.2.2.2.2.2.2.2.1 _ hr
  unfold xO
  rw [ds_nS_add, ds_nS_lmul, ds_nS_lmul, hS j k hj hk, hS j _ hj hbe, ← Nat.add_mul]
  generalize d.2.2.2.2.1 (j * d.1.1 + k) = cr at *
  rw [show 27720 - cr + cr = 27720 by omega]
theorem cU_le {d : LD} {j k o k2 : Nat} : cU d j k o k2 ≤ xO d j k o := by
  rw [cU_split]
  unfold xO
  refine Nat.add_le_add ?_ ?_
  · by_cases w : k2 = k
    · rw [if_pos w]; exact Nat.le_refl _
    · rw [if_neg w]; exact Nat.zero_le _
  · by_cases w : k2 = d.2.2.2.2.2.1 (j * d.1.1 + k)
    · rw [if_pos w]; exact Nat.le_refl _
    · rw [if_neg w]; exact Nat.zero_le _
/-- what goes to machines and to ports, of a column -/
theorem col_tot {d : LD} (hO : LOK d) {j k : Nat} (hj : j < d.1.2.1) (hk : k < d.1.1) {n m : Nat} (hn : n ≤ 9) (hm : m ≤ 9) : ∃ f : Nat → Nat, ds_nS (fun r => colD d j k (17 + r)) n + ds_nS (fun r => colD d j k (27 + r)) m = ds_nS f (d.2.1 j) ∧ (∀ o, o < d.2.1 j → f o ≤ xO d j k o) ∧ ∀ o, o < d.2.1 j → (d.2.2.1 (3 * j + o)).toInt < 0 → m = 0 → f o = 0 := by
  have hr := row_lt hO.1.2 hO.2.1 hj hk
  have hbe := hO.2.2.2.2.2.2.2.1 _ hr
  have hou := hO.2.2.2.1 j hj
  generalize hcr : d.2.2.2.2.1 (j * d.1.1 + k) = cr
  generalize hbv : d.2.2.2.2.2.1 (j * d.1.1 + k) = be
  rw [hbv] at hbe
  have key : ∀ a e, 17 ≤ a → a + e ≤ 36 → ds_nS (fun r => colD d j k (a + r)) e = ds_nS (fun o => (if a ≤ tgt d j k o ∧ tgt d j k o < a + e then (27720 - cr) * d.2.2.2.1 (3 * (j * d.1.1 + k) + o) else 0) + (if a ≤ tgt d j be o ∧ tgt d j be o < a + e then cr * d.2.2.2.1 (3 * (j * d.1.1 + be) + o) else 0)) (d.2.1 j) := by
    intro a e ha he
    have e1 : ds_nS (fun r => colD d j k (a + r)) e = ds_nS (fun r => ds_nS (fun o => (if tgt d j k o = a + r then (27720 - cr) * d.2.2.2.1 (3 * (j * d.1.1 + k) + o) else 0) + (if tgt d j be o = a + r then cr * d.2.2.2.1 (3 * (j * d.1.1 + be) + o) else 0)) (d.2.1 j)) e := ds_nS_congr fun r hr => by
      rw [colD_at, hcr, hbv]
      have z : C0 (a + r) = 0 := if_neg (by omega)
      rw [z, if_neg (by omega), if_neg (by omega), ← ds_nS_add, Nat.zero_add]
    rw [e1, ds_nS_swap]
    refine ds_nS_congr fun o _ => ?_
    show ds_nS (fun r => (if tgt d j k o = a + r then (27720 - cr) * d.2.2.2.1 (3 * (j * d.1.1 + k) + o) else 0) + (if tgt d j be o = a + r then cr * d.2.2.2.1 (3 * (j * d.1.1 + be) + o) else 0)) e = _
    rw [ds_nS_add, nS_hit, nS_hit]
  refine ⟨_, by rw [key 17 n (by omega) (by omega), key 27 m (by omega) (by omega), ← ds_nS_add], fun o ho => ?_, fun o ho hneg hm0 => ?_⟩
  · show _ + _ + (_ + _) ≤ _
    unfold xO
    rw [hcr, hbv]
    have q : ∀ t x : Nat, (if 17 ≤ t ∧ t < 17 + n then x else 0) + (if 27 ≤ t ∧ t < 27 + m then x else 0) ≤ x := fun t x => by
      by_cases w : 17 ≤ t ∧ t < 17 + n
      · rw [if_pos w, if_neg (by omega)]; omega
      · rw [if_neg w]
        by_cases w2 : 27 ≤ t ∧ t < 27 + m
        · rw [if_pos w2]; omega
        · rw [if_neg w2]; omega
    have q1 := q (tgt d j k o) ((27720 - cr) * d.2.2.2.1 (3 * (j * d.1.1 + k) + o))
    have q2 := q (tgt d j be o) (cr * d.2.2.2.1 (3 * (j * d.1.1 + be) + o))
    generalize (if 17 ≤ tgt d j k o ∧ tgt d j k o < 17 + n then (27720 - cr) * d.2.2.2.1 (3 * (j * d.1.1 + k) + o) else 0) = x1 at *
    generalize (if 17 ≤ tgt d j be o ∧ tgt d j be o < 17 + n then cr * d.2.2.2.1 (3 * (j * d.1.1 + be) + o) else 0) = x2 at *
    generalize (if 27 ≤ tgt d j k o ∧ tgt d j k o < 27 + m then (27720 - cr) * d.2.2.2.1 (3 * (j * d.1.1 + k) + o) else 0) = x3 at *
    generalize (if 27 ≤ tgt d j be o ∧ tgt d j be o < 27 + m then cr * d.2.2.2.1 (3 * (j * d.1.1 + be) + o) else 0) = x4 at *
    generalize (27720 - cr) * d.2.2.2.1 (3 * (j * d.1.1 + k) + o) = x5 at *
    generalize cr * d.2.2.2.1 (3 * (j * d.1.1 + be) + o) = x6 at *
    omega
  · subst hm0
    have t1 := tgt_rg hO (o := o) hj (by omega) hk
    have t2 := tgt_rg hO (o := o) hj (by omega) hbe
    show _ + _ + (_ + _) = 0
    rw [if_neg (by omega), if_neg (by omega), if_neg (by omega), if_neg (by omega)]
theorem LB_of {d : LD} (hO : LOK d) (hS : SHS d) : LB d := fun j k hj hk t ht => by
  have hr := row_lt hO.1.2 hO.2.1 hj hk
  have hcr := hO.2.2.2.2.2.2.1 _ hr
  have hbe := hO.2.2.2.2.2.2.2.1 _ hr
  have hou := hO.2.2.2.1 j hj
  rcases ht with e | e | e | e
  · rw [e, colD_15]; exact Nat.le_refl _
  · obtain ⟨f, f1, f2, -⟩ := col_tot hO hj hk (n := 9) (m := 0) (by omega) (by omega)
    have h1 := ds_nS_mono f2
    rw [xO_sum hO hS hj hk, ← f1] at h1
    have h2 := ds_nS_one (g := fun r => colD d j k (17 + r)) (k := 0) (i := t - 17) (n := 9) (by omega) (by omega)
    have h3 : ds_nS (fun r => colD d j k (17 + r)) 0 + colD d j k (17 + (t - 17)) ≤ ds_nS (fun r => colD d j k (17 + r)) 9 := h2
    rw [show 17 + (t - 17) = t by omega] at h3
    omega
  · obtain ⟨f, f1, f2, -⟩ := col_tot hO hj hk (n := 0) (m := 9) (by omega) (by omega)
    have h1 := ds_nS_mono f2
    rw [xO_sum hO hS hj hk, ← f1] at h1
    have h2 := ds_nS_one (g := fun r => colD d j k (27 + r)) (k := 0) (i := t - 27) (n := 9) (by omega) (by omega)
    have h3 : ds_nS (fun r => colD d j k (27 + r)) 0 + colD d j k (27 + (t - 27)) ≤ ds_nS (fun r => colD d j k (27 + r)) 9 := h2
    rw [show 27 + (t - 27) = t by omega] at h3
    omega
  · rw [colD_at]
    have z : C0 t = 0 := if_neg (by omega)
    rw [z, ds_nS_zero (fun o ho => if_neg (by have := tgt_rg hO (o := o) hj (by omega) hk; omega)), ds_nS_zero (fun o ho => if_neg (by have := tgt_rg hO (o := o) hj (by omega) hbe; omega))]
    generalize d.2.2.2.2.1 (j * d.1.1 + k) = cr at *
    have h1 : (if t = 37 + k then (27720 - cr) * 27720 else 0) ≤ (27720 - cr) * 27720 := by
      by_cases w : t = 37 + k
      · rw [if_pos w]; exact Nat.le_refl _
      · rw [if_neg w]; exact Nat.zero_le _
    have h2 : (if t = 37 + d.2.2.2.2.2.1 (j * d.1.1 + k) then cr * 27720 else 0) ≤ cr * 27720 := by
      by_cases w : t = 37 + d.2.2.2.2.2.1 (j * d.1.1 + k)
      · rw [if_pos w]; exact Nat.le_refl _
      · rw [if_neg w]; exact Nat.zero_le _
    omega
