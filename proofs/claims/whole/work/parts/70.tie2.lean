/-! The class's columns: sums over the outs. -/
theorem snd_at (d : LD) (j k u : Nat) (C : Nat → Nat) (t : Nat) : ∀ n, snd d j k u C n t = C t + (if t = 37 + k then u * 27720 else 0) + ds_nS (fun o => if tgt d j k o = t then u * d.2.2.2.1 (3 * (j * d.1.1 + k) + o) else 0) n
  | 0 => by
    show va_up C (37 + k) _ t = _
    by_cases w : t = 37 + k
    · subst w; rw [va_up_self, if_pos rfl]; rfl
    · rw [va_up_ne _ _ w, if_neg w]; rfl
  | n + 1 => by
    show va_up (snd d j k u C n) (tgt d j k n) _ t = _ + (ds_nS _ n + (if tgt d j k n = t then _ else 0))
    by_cases w : t = tgt d j k n
    · subst w; rw [va_up_self, if_pos rfl, snd_at d j k u C _ n]; omega
    · have w2 : ¬ tgt d j k n = t := fun z => w z.symm
      rw [va_up_ne _ _ w, if_neg w2, snd_at d j k u C _ n]; omega
theorem colD_at (d : LD) (j k t : Nat) : colD d j k t = C0 t + ((if t = 37 + k then (27720 - d.2.2.2.2.1 (j * d.1.1 + k)) * 27720 else 0) + (if t = 37 + d.2.2.2.2.2.1 (j * d.1.1 + k) then d.2.2.2.2.1 (j * d.1.1 + k) * 27720 else 0)) + (ds_nS (fun o => if tgt d j k o = t then (27720 - d.2.2.2.2.1 (j * d.1.1 + k)) * d.2.2.2.1 (3 * (j * d.1.1 + k) + o) else 0) (d.2.1 j) + ds_nS (fun o => if tgt d j (d.2.2.2.2.2.1 (j * d.1.1 + k)) o = t then d.2.2.2.2.1 (j * d.1.1 + k) * d.2.2.2.1 (3 * (j * d.1.1 + d.2.2.2.2.2.1 (j * d.1.1 + k)) + o) else 0) (d.2.1 j)) := by
  unfold colD
  rw [snd_at, snd_at]; omega
/-- to a machine, to a port -/
theorem tgt_m {d : LD} (hO : LOK d) {j k o i k2 : Nat} (hj : j < d.1.2.1) (ho : o < 3) (hk : k < d.1.1) (hi : i < d.1.2.1) (hk2 : k2 < d.1.1) : tgt d j k o = 17 + (i * d.1.1 + k2) ↔ (d.2.2.1 (3 * j + o)).toInt = (i : Int) ∧ k2 = k := by
  have hK := hO.1
  have hM := hO.2.1
  have hP := hO.2.2.1
  have hr := row_lt hK.2 hM hi hk2
  have hjo := hO.2.2.2.2.1 (3 * j + o) (by omega)
  unfold tgt
  unfold jOK at hjo
  by_cases w : 0 ≤ (d.2.2.1 (3 * j + o)).toInt
  · rw [if_pos w]
    constructor
    · intro q
      obtain ⟨q1, q2⟩ := row_inj (K := d.1.1) (j := (d.2.2.1 (3 * j + o)).toInt.toNat) (j' := i) hk hk2 (by omega)
      exact ⟨by omega, q2⟩
    · intro q
      obtain ⟨q1, q2⟩ := q
      have : (d.2.2.1 (3 * j + o)).toInt.toNat = i := by omega
      rw [this, q2]
  · rw [if_neg w]
    by_cases w2 : (d.2.2.1 (3 * j + o)).toInt ≤ -2
    · rw [if_pos w2]
      have hr2 := row_lt (K := d.1.1) (j := (-2 - (d.2.2.1 (3 * j + o)).toInt).toNat) hK.2 hP (by omega) hk
      constructor <;> intro q <;> omega
    · rw [if_neg w2]
      constructor <;> intro q <;> omega
theorem tgt_p {d : LD} (hO : LOK d) {j k o p k2 : Nat} (hj : j < d.1.2.1) (ho : o < 3) (hk : k < d.1.1) (hp : p < d.1.2.2) (hk2 : k2 < d.1.1) : tgt d j k o = 27 + (p * d.1.1 + k2) ↔ (d.2.2.1 (3 * j + o)).toInt = -2 - (p : Int) ∧ k2 = k := by
  have hK := hO.1
  have hM := hO.2.1
  have hP := hO.2.2.1
  have hr := row_lt hK.2 hP hp hk2
  have hjo := hO.2.2.2.2.1 (3 * j + o) (by omega)
  unfold tgt
  unfold jOK at hjo
  by_cases w : 0 ≤ (d.2.2.1 (3 * j + o)).toInt
  · rw [if_pos w]
    have hr2 := row_lt (K := d.1.1) (j := (d.2.2.1 (3 * j + o)).toInt.toNat) hK.2 hM (by omega) hk
    constructor <;> intro q <;> omega
  · rw [if_neg w]
    by_cases w2 : (d.2.2.1 (3 * j + o)).toInt ≤ -2
    · rw [if_pos w2]
      constructor
      · intro q
        obtain ⟨q1, q2⟩ := row_inj (K := d.1.1) (j := (-2 - (d.2.2.1 (3 * j + o)).toInt).toNat) (j' := p) hk hk2 (by omega)
        exact ⟨by omega, q2⟩
      · intro q
        obtain ⟨q1, q2⟩ := q
        have : (-2 - (d.2.2.1 (3 * j + o)).toInt).toNat = p := by omega
        rw [this, q2]
    · rw [if_neg w2]
      constructor <;> intro q <;> omega
theorem cU_split (d : LD) (j k o k2 : Nat) : cU d j k o k2 = (if k2 = k then (27720 - d.2.2.2.2.1 (j * d.1.1 + k)) * d.2.2.2.1 (3 * (j * d.1.1 + k) + o) else 0) + (if k2 = d.2.2.2.2.2.1 (j * d.1.1 + k) then d.2.2.2.2.1 (j * d.1.1 + k) * d.2.2.2.1 (3 * (j * d.1.1 + d.2.2.2.2.2.1 (j * d.1.1 + k)) + o) else 0) := by
  unfold cU
  by_cases w : k2 = d.2.2.2.2.2.1 (j * d.1.1 + k)
  · rw [if_pos w, if_pos w, ← w]
  · rw [if_neg w, if_neg w]
theorem colD_m {d : LD} (hO : LOK d) {j k i k2 : Nat} (hj : j < d.1.2.1) (hk : k < d.1.1) (hi : i < d.1.2.1) (hk2 : k2 < d.1.1) : colD d j k (17 + (i * d.1.1 + k2)) = ds_nS (fun o => if (d.2.2.1 (3 * j + o)).toInt = (i : Int) then cU d j k o k2 else 0) (d.2.1 j) := by
  have hK := hO.1
  have hou := hO.2.2.2.1 j hj
  have hr := row_lt hK.2 hO.2.1 hi hk2
  have hbe := hO.2.2.2.2.2.2.2.1 _ (row_lt hK.2 hO.2.1 hj hk)
  rw [colD_at]
  have z : C0 (17 + (i * d.1.1 + k2)) = 0 := if_neg (by omega)
  rw [z, if_neg (by omega), if_neg (by omega), ← ds_nS_add]
  rw [Nat.zero_add]
  refine ds_nS_congr fun o ho => ?_
  have t1 := tgt_m hO hj (by omega : o < 3) hk hi hk2
  have t2 := tgt_m hO hj (by omega : o < 3) hbe hi hk2
  rw [cU_split]
  by_cases w : (d.2.2.1 (3 * j + o)).toInt = (i : Int)
  · rw [if_pos w]
    congr 1
    · by_cases q : k2 = k
      · rw [if_pos q, if_pos (t1.mpr ⟨w, q⟩)]
      · rw [if_neg q, if_neg (fun z => q (t1.mp z).2)]
    · by_cases q : k2 = d.2.2.2.2.2.1 (j * d.1.1 + k)
      · rw [if_pos q, if_pos (t2.mpr ⟨w, q⟩)]
      · rw [if_neg q, if_neg (fun z => q (t2.mp z).2)]
  · rw [if_neg w, if_neg (fun z => w (t1.mp z).1), if_neg (fun z => w (t2.mp z).1)]
theorem colD_p {d : LD} (hO : LOK d) {j k p k2 : Nat} (hj : j < d.1.2.1) (hk : k < d.1.1) (hp : p < d.1.2.2) (hk2 : k2 < d.1.1) : colD d j k (27 + (p * d.1.1 + k2)) = ds_nS (fun o => if (d.2.2.1 (3 * j + o)).toInt = -2 - (p : Int) then cU d j k o k2 else 0) (d.2.1 j) := by
  have hK := hO.1
  have hou := hO.2.2.2.1 j hj
  have hr := row_lt hK.2 hO.2.2.1 hp hk2
  have hbe := hO.2.2.2.2.2.2.2.1 _ (row_lt hK.2 hO.2.1 hj hk)
  rw [colD_at]
  have z : C0 (27 + (p * d.1.1 + k2)) = 0 := if_neg (by omega)
  rw [z, if_neg (by omega), if_neg (by omega), ← ds_nS_add]
  rw [Nat.zero_add]
  refine ds_nS_congr fun o ho => ?_
  have t1 := tgt_p hO hj (by omega : o < 3) hk hp hk2
  have t2 := tgt_p hO hj (by omega : o < 3) hbe hp hk2
  rw [cU_split]
  by_cases w : (d.2.2.1 (3 * j + o)).toInt = -2 - (p : Int)
  · rw [if_pos w]
    congr 1
    · by_cases q : k2 = k
      · rw [if_pos q, if_pos (t1.mpr ⟨w, q⟩)]
      · rw [if_neg q, if_neg (fun z => q (t1.mp z).2)]
    · by_cases q : k2 = d.2.2.2.2.2.1 (j * d.1.1 + k)
      · rw [if_pos q, if_pos (t2.mpr ⟨w, q⟩)]
      · rw [if_neg q, if_neg (fun z => q (t2.mp z).2)]
  · rw [if_neg w, if_neg (fun z => w (t1.mp z).1), if_neg (fun z => w (t2.mp z).1)]
theorem ds_nS_lmul (c : Nat) (f : Nat → Nat) (n : Nat) : ds_nS (fun i => c * f i) n = c * ds_nS f n := by
  rw [Nat.mul_comm, ← ds_nS_mul]
  exact ds_nS_congr fun i _ => Nat.mul_comm _ _
theorem ds_nS_zero {f : Nat → Nat} {n : Nat} (h : ∀ i, i < n → f i = 0) : ds_nS f n = 0 := by
  have := ds_nS_bd (f := f) (c := 0) (n := n) (fun i hi => by rw [h i hi]; exact Nat.le_refl 0)
  omega
theorem ds_nS_swap (f : Nat → Nat → Nat) (n : Nat) : ∀ m : Nat, ds_nS (fun i => ds_nS (fun j => f i j) n) m = ds_nS (fun j => ds_nS (fun i => f i j) m) n
  | 0 => (ds_nS_zero (fun _ _ => rfl)).symm
  | m + 1 => by
    show ds_nS (fun i => ds_nS (fun j => f i j) n) m + ds_nS (fun j => f m j) n = ds_nS (fun j => ds_nS (fun i => f i j) m + f m j) n
    rw [ds_nS_swap f n m, ds_nS_add]
/-- all of a column's kinds at one out -/
theorem cU_sum (d : LD) {j k o : Nat} (hk : k < d.1.1) (hbe : d.2.2.2.2.2.1 (j * d.1.1 + k) < d.1.1) : ds_nS (fun k2 => cU d j k o k2) d.1.1 = (27720 - d.2.2.2.2.1 (j * d.1.1 + k)) * d.2.2.2.1 (3 * (j * d.1.1 + k) + o) + d.2.2.2.2.1 (j * d.1.1 + k) * d.2.2.2.1 (3 * (j * d.1.1 + d.2.2.2.2.2.1 (j * d.1.1 + k)) + o) := by
  have one : ∀ (x y n : Nat), y < n → ds_nS (fun i => if i = y then x else 0) n = x := by
    intro x y n
    induction n with
    | zero => intro h; omega
    | succ n ih =>
      intro h
      show ds_nS (fun i => if i = y then x else 0) n + (if n = y then x else 0) = x
      by_cases w : n = y
      · rw [if_pos w, ds_nS_zero (fun i hi => if_neg (by omega))]; omega
      · rw [if_neg w, ih (by omega)]; rfl
  rw [ds_nS_congr (fun k2 _ => cU_split d j k o k2), ds_nS_add, one _ _ _ hk, one _ _ _ hbe]
