/-! The slope in pure words. -/
def gramF (d : LD) (tv : Int32) (k i : Nat) : Nat := if 0 ≤ tv.toInt ∧ i = tv.toInt.toNat * d.1.1 + k then 1 else 0
def rhsS (d : LD) (g1 g2 : Int32) (k : Nat) : Nat → Nat → Nat := fun i j => if j = d.1.2.1 * d.1.1 then d.2.2.2.2.2.2 i else if j = d.1.2.1 * d.1.1 + 1 then gramF d g1 k i else gramF d g2 k i
def zs (F : Nat → Nat → Nat) (n : Nat) (f : Nat → Nat → Nat) (q i : Nat) : Nat := (ds_C (am F n f) n i (n + q)).toNat
def dt (F : Nat → Nat → Nat) (n : Nat) (f : Nat → Nat → Nat) : Nat := (ds_d (am F n f) n).toNat
def amz (F : Nat → Nat → Nat) (z : Nat → Nat) (pr n : Nat) : Nat := ds_nS (fun i => F (27 + pr) i * z i) n
def psz (F : Nat → Nat → Nat) (z : Nat → Nat) (t r0 K : Nat) : Nat := ds_nS (fun k => F (37 + t) (r0 + k) * z (r0 + k)) K
def ldz (F : Nat → Nat → Nat) (z : Nat → Nat) (r0 K : Nat) : Nat := ds_nS (fun k => F 15 (r0 + k) * z (r0 + k)) K
def rchz (d : LD) (F : Nat → Nat → Nat) (dd : Nat) (z : Nat → Nat) (to : Int32) (p n : Nat) : Nat := if to.toInt = -2 - (p : Int) then dd else if 0 ≤ to.toInt then ds_nS (fun k => amz F z (p * d.1.1 + k) n) d.1.1 else 0
/-- the answer out of what is reached, what passes, and the determinant -/
def sgd (fi se ps dd pt : Nat) : Int64 := if fi < se then npart ((se - fi) * ps) (dd * dd) pt else lN (ppart ((fi - se) * ps) (dd * dd) pt)
def slG (d : LD) (F : Nat → Nat → Nat) (f : Nat → Nat → Nat) (g1 g2 : Int32) (j k p pt : Nat) : Int64 :=
  sgd (rchz d F (dt F (d.1.2.1 * d.1.1) f) (zs F (d.1.2.1 * d.1.1) f 1) g1 p (d.1.2.1 * d.1.1)) (rchz d F (dt F (d.1.2.1 * d.1.1) f) (zs F (d.1.2.1 * d.1.1) f 2) g2 p (d.1.2.1 * d.1.1)) (psz F (zs F (d.1.2.1 * d.1.1) f 0) k (j * d.1.1) d.1.1) (dt F (d.1.2.1 * d.1.1) f) pt
def slp (d : LD) (F : Nat → Nat → Nat) (j k o p pt : Nat) : Int64 := slG d F (rhsS d (d.2.2.1 (3 * j + o)) (d.2.2.1 (3 * j + (d.2.1 j - 1))) k) (d.2.2.1 (3 * j + o)) (d.2.2.1 (3 * j + (d.2.1 j - 1))) j k p pt
theorem ds_nS_bd {f : Nat → Nat} {c : Nat} : ∀ {n : Nat}, (∀ i, i < n → f i ≤ c) → ds_nS f n ≤ n * c
  | 0, _ => Nat.zero_le _
  | n + 1, h => by
    have h1 := ds_nS_bd (f := f) (c := c) (n := n) (fun i hi => h i (by omega))
    have h2 := h n (by omega)
    show ds_nS f n + f n ≤ (n + 1) * c
    rw [Nat.add_mul, Nat.one_mul]; omega
theorem gram_sum (d : LD) (tv : Int32) (k n : Nat) : ds_nS (fun i => gramF d tv k i) n ≤ 1 := by
  by_cases h : 0 ≤ tv.toInt
  · have : ds_nS (fun i => gramF d tv k i) n = ds_nS (fun i => if i = tv.toInt.toNat * d.1.1 + k then 1 else 0) n := ds_nS_congr (fun i _ => by
      unfold gramF
      exact ite_iff (by omega))
    rw [this]; exact ds_nS_ite 1 _ n
  · have : ds_nS (fun i => gramF d tv k i) n ≤ n * 0 := ds_nS_bd (fun i _ => by unfold gramF; rw [if_neg (by omega)]; exact Nat.le_refl 0)
    omega
theorem amt_z {F : Nat → Nat → Nat} {V z : Nat → Nat} {pr col n : Nat} (h : ∀ i, i < n → V (12 * i + col) = z i) : amt F V pr col n = amz F z pr n := ds_nS_congr (fun i hi => by rw [h i hi])
theorem cmp_ge {X Y : Nat} : 0 ≤ cmpI X Y ↔ ¬ X < Y := by
  unfold cmpI
  by_cases h : X < Y
  · rw [if_pos h]; exact ⟨fun q => absurd q (by decide), fun q => absurd h q⟩
  · rw [if_neg h]
    by_cases h2 : X = Y
    · rw [if_pos h2]; exact ⟨fun _ => h, fun _ => by decide⟩
    · rw [if_neg h2]; exact ⟨fun _ => h, fun _ => by decide⟩
theorem bz_am_r {F : Nat → Nat → Nat} {n i q : Nat} {f : Nat → Nat → Nat} (h : n ≤ q) : bz_g n i q * am F n f i q = (f i q : Int) := by
  have e1 : bz_g n i q = 1 := if_pos (Or.inr h)
  have e2 : am F n f i q = (f i q : Int) := if_neg (by omega)
  rw [e1, e2, Int.one_mul]
theorem bz_am_d {F : Nat → Nat → Nat} {n i : Nat} {f : Nat → Nat → Nat} (h : i < n) (hF : F (17 + i) i ≤ F 15 i) : bz_g n i i * am F n f i i = ((F 15 i - F (17 + i) i : Nat) : Int) := by
  have e1 : bz_g n i i = 1 := if_pos (Or.inl rfl)
  have e2 : am F n f i i = (F 15 i : Int) - (F (17 + i) i : Int) := by unfold am; rw [if_pos h, if_pos rfl]
  rw [e1, e2, Int.one_mul]; omega
theorem bz_am_o {F : Nat → Nat → Nat} {n i q : Nat} {f : Nat → Nat → Nat} (h : q < n) (hiq : i ≠ q) : bz_g n i q * am F n f i q = (F (17 + i) q : Int) := by
  have e1 : bz_g n i q = -1 := if_neg (by omega)
  have e2 : am F n f i q = -(F (17 + i) q : Int) := by unfold am; rw [if_pos h, if_neg hiq]
  rw [e1, e2]; omega
section FLS
variable {l : Launch} {D : va_G} {ca : Nat → ClassId}
set_option maxRecDepth 8000 in
set_option maxHeartbeats 1000000 in
theorem c_Fl_slopePart {m0 : jm_M} {ad V : Nat → Nat} {d : LD} {F : Nat → Nat → Nat} {j k o p pt : Nat} (S : SST m0 ad) (L : LnV m0 ad d) (hO : LOK d) (hB : LB d) (hF : FlV m0 ad F) (hV : WV m0 ad V) (hFG : ∀ F, RA d F (d.1.2.1 * d.1.1) → FG (d.1.2.1 * d.1.1) F) (hj : j < d.1.2.1) (hk : k < d.1.1) (ho : o < d.2.1 j) (hp : p < d.1.2.2) (hpt : pt ≤ 6) : jm_C l D ca n_Fl_slopePart [.ref (ad 2), .int (nI j), .int (nI k), .int (nI o), .int (nI p), .int (nI pt)] m0 0 0 (fun v m' => ∃ F', RA d F' (d.1.2.1 * d.1.1) ∧ v = some (.long (slp d F' j k o p pt)) ∧ FRs ad fP m0 m' ∧ FlV m' ad F' ∧ ∃ V', WV m' ad V' ∧ ∀ i, 118 ≤ i → i < 132 → V' i = V i) := by
  refine jm_C_of (cd := cd_Fl_slopePart) (ini := false) (by decide +kernel) ok_Fl_slopePart (fun h => by cases h) (Nat.le_of_ble_eq_true rfl) ?_
  intro X hX
  have hK := hO.1
  have hM := hO.2.1
  have hou := hO.2.2.2.1 j hj
  have hn9 : d.1.2.1 * d.1.1 ≤ 9 := Nat.mul_le_mul hM hK.2
  have hg1 := hO.2.2.2.2.1 (3 * j + o) (by omega)
  have hg2 := hO.2.2.2.2.1 (3 * j + (d.2.1 j - 1)) (by omega)
  have hsl : ∀ F, slp d F j k o p pt = slG d F (rhsS d (d.2.2.1 (3 * j + o)) (d.2.2.1 (3 * j + (d.2.1 j - 1))) k) (d.2.2.1 (3 * j + o)) (d.2.2.1 (3 * j + (d.2.1 j - 1))) j k p pt := fun F => rfl
  have kt1 := c_Ln_target (l := l) (D := D) (ca := ca) (j := j) (o := o) S L (by omega) (by omega)
  have klo := c_Ln_lastOut (l := l) (D := D) (ca := ca) (j := j) S L (by omega) hou.1
  have kt2 := c_Ln_target (l := l) (D := D) (ca := ca) (j := j) (o := d.2.1 j - 1) S L (by omega) (by omega)
  generalize hg1e : d.2.2.1 (3 * j + o) = g1 at *
  generalize hg2e : d.2.2.1 (3 * j + (d.2.1 j - 1)) = g2 at *
  have hrhs : ∀ i q, rhsS d g1 g2 k i q = if q = d.1.2.1 * d.1.1 then d.2.2.2.2.2.2 i else if q = d.1.2.1 * d.1.1 + 1 then gramF d g1 k i else gramF d g2 k i := fun i q => rfl
  have hfeed : ds_nS (fun i => d.2.2.2.2.2.2 i) (d.1.2.1 * d.1.1) ≤ 9000000 := by
    have := ds_nS_bd (f := fun i => d.2.2.2.2.2.2 i) (c := 1000000) (n := d.1.2.1 * d.1.1) (fun i hi => hO.2.2.2.2.2.2.2.2 i (by omega))
    have : d.1.2.1 * d.1.1 * 1000000 ≤ 9 * 1000000 := Nat.mul_le_mul_right _ hn9
    omega
  generalize hrs : rhsS d g1 g2 k = f at *
  generalize hne : d.1.2.1 * d.1.1 = n at *
  have hjn : ∀ i, i < d.1.1 → j * d.1.1 + i < n := by
    intro i hi
    rw [← hne]
    have := Nat.mul_le_mul_right d.1.1 (show j + 1 ≤ d.1.2.1 from hj)
    rw [Nat.add_mul, Nat.one_mul] at this
    omega
  have o2 : ∀ {m' : jm_M}, SST m' ad → jm_ok m' (ad 2) 1 := fun S => S.ok 2 (Or.inl (by decide))
  have o1 : ∀ {m' : jm_M}, SST m' ad → jm_ok m' (ad 1) 2 := fun S => S.ok 1 (Or.inl (by decide))
  have o4 : ∀ {m' : jm_M}, SST m' ad → jm_ok m' (ad 4) 0 := fun S => S.ok 4 (Or.inl (by decide))
  have r4 : ∀ {m' : jm_M}, SST m' ad → m'.2.2.2.2 (ad 2) 0 = some (ad 4) := fun S => S.2.2.1 (2, 0, 4) (by decide)
  have r1 : ∀ {m' : jm_M}, SST m' ad → m'.2.2.2.2 (ad 2) 2 = some (ad 1) := fun S => S.2.2.1 (2, 2, 1) (by decide)
  have rb : ∀ {m' : jm_M}, SST m' ad → m'.2.2.2.2 (ad 2) 1 = some (ad 316) := fun S => S.2.2.1 (2, 1, 316) (by decide)
  have rf : ∀ {m' : jm_M}, SST m' ad → m'.2.2.2.2 (ad 2) 9 = some (ad 318) := fun S => S.2.2.1 (2, 9, 318) (by decide)
  have rs : ∀ {m' : jm_M}, SST m' ad → m'.2.2.2.2 (ad 2) 10 = some (ad 320) := fun S => S.2.2.1 (2, 10, 320) (by decide)
  have rp : ∀ {m' : jm_M}, SST m' ad → m'.2.2.2.2 (ad 2) 11 = some (ad 322) := fun S => S.2.2.1 (2, 11, 322) (by decide)
  have rpr : ∀ {m' : jm_M}, SST m' ad → m'.2.2.2.2 (ad 2) 12 = some (ad 324) := fun S => S.2.2.1 (2, 12, 324) (by decide)
  have rsq : ∀ {m' : jm_M}, SST m' ad → m'.2.2.2.2 (ad 2) 13 = some (ad 326) := fun S => S.2.2.1 (2, 13, 326) (by decide)
  have hfPW : ∀ k : Nat, 100 ≤ k → k < 364 → fP k := fun k h _ => Or.inr (Or.inr h)
  have hLp : ∀ k, k < 15 → fP k → k = 0 ∨ k = 2 ∨ k = 3 ∨ k = 4 ∨ 10 < k := fun k hk h => by unfold fP fk at h; omega
  -- the end: 'more' is number x, 'less' number y
  have fin : ∀ (F' : Nat → Nat → Nat) (m : jm_M) (W : Nat → Nat) (x y : Nat) (x8 : Int32), RA d F' n → FRs ad fP m0 m → m.2.2.1 (ad 2) 3 = nI n → FlV m ad F' → WV m ad W → (∀ i, 118 ≤ i → i < 132 → W i = V i) →
      ((x = 109 ∧ y = 110) ∨ (x = 110 ∧ y = 109)) → (x8 = 0 ∨ x8 = 1) → W y ≤ W x → W x ≤ 27 * 83160 * 166320 ^ 8 → W 108 = dt F' n f → (∀ i, i < n → W (12 * i + n) = zs F' n f 0 i) →
      slp d F' j k o p pt = (if x8 = 0 then lN (ppart ((W x - W y) * psz F' (zs F' n f 0) k (j * d.1.1) d.1.1) (dt F' n f * dt F' n f) pt) else npart ((W x - W y) * psz F' (zs F' n f 0) k (j * d.1.1) d.1.1) (dt F' n f * dt F' n f) pt) →
      X 157 [(0, .ref (ad 2)), (1, .int (nI j)), (2, .int (nI k)), (5, .int (nI pt)), (8, .int x8), (9, .ref (ad (100 + 2 * x))), (10, .ref (ad (100 + 2 * y)))] [] m 0 0 := by
    intro F' m W x y x8 hA hR hs hFl hW hhi hxy h8 hle hWx hdt hz hans
    have hG := hFG F' hA
    have Sm := hR.S S
    have hx2 : x < 132 := by omega
    have hy2 : y < 132 := by omega
    have hdd := am_d (f := f) hG hn9
    have hd0 : 0 < dt F' n f := by unfold dt; omega
    have hd9 : dt F' n f ≤ 166320 ^ 9 := by unfold dt; omega
    have hd2 : dt F' n f * dt F' n f < wB ^ 11 := Nat.lt_of_le_of_lt (Nat.mul_le_mul hd9 hd9) (by decide)
    have hps : psz F' (zs F' n f 0) k (j * d.1.1) d.1.1 ≤ 3 * (83160 * (166320 ^ 8 * 9000000)) := by
      refine Nat.le_trans (ds_nS_bd (c := 83160 * (166320 ^ 8 * 9000000)) (fun i hi => ?_)) (Nat.mul_le_mul_right _ hK.2)
      have h1 := hG.2.1 (37 + k) (fk_t (by omega)) _ (hjn i hi)
      have h2 := (am_C (f := f) (j := n + 0) (R := 9000000) hG hn9 (hjn i hi) (by omega) (by
        refine Nat.le_trans (Nat.le_of_eq (ds_nS_congr (fun i _ => ?_))) hfeed
        rw [hrhs, if_pos (by omega)])).2
      refine Nat.mul_le_mul h1 ?_
      unfold zs; omega
    have hprod : (W x - W y) * psz F' (zs F' n f 0) k (j * d.1.1) d.1.1 < wB ^ 12 :=
      Nat.lt_of_le_of_lt (Nat.mul_le_mul (Nat.le_trans (Nat.sub_le _ _) hWx) hps) (by decide)
    have h1213 : wB ^ 12 ≤ wB ^ 13 := Nat.pow_le_pow_right (by decide) (by decide)
    have h1113 : wB ^ 11 ≤ wB ^ 13 := Nat.pow_le_pow_right (by decide) (by decide)
    have key1 := w_sub (l := l) (D := D) (ca := ca) (i := x) (j := y) Sm hW hx2 hy2 (by omega) hle
    refine jm_run hX [] 80 ?_
    refine And.intro (Sm.wh x hx2).1 (And.intro (Nat.le_of_ble_eq_true rfl) (And.intro (Nat.le_of_ble_eq_true rfl) ⟨0, 0, _, Nat.le_refl _, Nat.le_refl _, key1, fun v m1 hq => ?_⟩))
    obtain ⟨rfl, hR1, hW1⟩ := hq
    have S1 := hR1.S Sm
    have hRR1 : FRs ad fP m0 m1 := hR.tr (FRs.W hfPW hR1)
    have hs1 : m1.2.2.1 (ad 2) 3 = nI n := by rw [hR1.I Sm (by decide)]; exact hs
    have L1 := hRR1.L S hLp L
    have hF1 := hR1.F Sm hFl
    have epz : psA F' (va_up W x (W x - W y)) k (j * d.1.1) n d.1.1 = psz F' (zs F' n f 0) k (j * d.1.1) d.1.1 := ds_nS_congr (fun i hi => by
      have := hjn i hi
      rw [va_up_ne _ _ (by omega), hz _ this])
    have hFb : ∀ i, i < d.1.1 → F' (37 + k) (j * d.1.1 + i) < 1073741824 := fun i hi => by
      have := hG.2.1 (37 + k) (fk_t (by omega)) _ (hjn i hi)
      omega
    have key2 := c_Fl_putPassing (l := l) (D := D) (ca := ca) (j := j) (t := k) (x := 111) S1 L1 hO hF1 hW1 hs1 hn9 hj (by omega) (by decide) (by decide) hFb (by rw [epz]; exact Nat.lt_of_le_of_lt hps (by decide))
    rw [epz] at key2
    generalize hPe : psz F' (zs F' n f 0) k (j * d.1.1) d.1.1 = ps at *
    generalize hDe : dt F' n f = dd at *
    refine And.intro (o2 S1) ⟨some (ad 322), rp S1, ?_⟩
    refine And.intro (o2 S1) (And.intro (Nat.le_of_ble_eq_true rfl) (And.intro (Nat.le_of_ble_eq_true rfl) ⟨0, 0, _, Nat.le_refl _, Nat.le_refl _, key2, fun v m2 hq => ?_⟩))
    obtain ⟨rfl, hR2, hW2⟩ := hq
    have S2 := hR2.S S1
    have gx : va_up (va_up W x (W x - W y)) 111 ps x = W x - W y := by rw [va_up_ne _ _ (by omega), va_up_self]
    have gp : va_up (va_up W x (W x - W y)) 111 ps 111 = ps := va_up_self _ _ _
    have gb : va_up (va_up W x (W x - W y)) 111 ps 108 = dd := by rw [va_up_ne _ _ (by decide), va_up_ne _ _ (by omega)]; exact hdt
    have key3 := w_mul (l := l) (D := D) (ca := ca) (i := 112) (j := x) (k := 111) S2 hW2 (by decide) hx2 (by decide) (by omega) (by decide) (by rw [gx, gp]; exact Nat.lt_of_lt_of_le hprod h1213)
    rw [gx, gp] at key3
    refine And.intro (o2 S2) ⟨some (ad 324), rpr S2, And.intro (o2 S2) ⟨some (ad 322), rp S2, ?_⟩⟩
    refine And.intro (S2.wh 112 (by decide)).1 (And.intro (Nat.le_of_ble_eq_true rfl) (And.intro (Nat.le_of_ble_eq_true rfl) ⟨0, 0, _, Nat.le_refl _, Nat.le_refl _, key3, fun v m3 hq => ?_⟩))
    obtain ⟨rfl, hR3, hW3⟩ := hq
    have S3 := hR3.S S2
    have gb3 : va_up (va_up (va_up W x (W x - W y)) 111 ps) 112 ((W x - W y) * ps) 108 = dd := by rw [va_up_ne _ _ (by decide)]; exact gb
    have key4 := w_mul (l := l) (D := D) (ca := ca) (i := 113) (j := 108) (k := 108) S3 hW3 (by decide) (by decide) (by decide) (by decide) (by decide) (by rw [gb3]; exact Nat.lt_of_lt_of_le hd2 h1113)
    rw [gb3] at key4
    refine And.intro (o2 S3) ⟨some (ad 326), rsq S3, And.intro (o2 S3) ⟨some (ad 316), rb S3, And.intro (o2 S3) ⟨some (ad 316), rb S3, ?_⟩⟩⟩
    refine And.intro (S3.wh 113 (by decide)).1 (And.intro (Nat.le_of_ble_eq_true rfl) (And.intro (Nat.le_of_ble_eq_true rfl) ⟨0, 0, _, Nat.le_refl _, Nat.le_refl _, key4, fun v m4 hq => ?_⟩))
    obtain ⟨rfl, hR4, hW4⟩ := hq
    have S4 := hR4.S S3
    generalize hV4 : va_up (va_up (va_up (va_up W x (W x - W y)) 111 ps) 112 ((W x - W y) * ps)) 113 (dd * dd) = V4 at hW4
    have g112 : V4 112 = (W x - W y) * ps := by rw [← hV4, va_up_ne _ _ (by decide), va_up_self]
    have g113 : V4 113 = dd * dd := by rw [← hV4, va_up_self]
    have ghi : ∀ i, 118 ≤ i → i < 132 → V4 i = V i := fun i h1 h2 => by
      rw [← hV4, va_up_ne _ _ (by omega), va_up_ne _ _ (by omega), va_up_ne _ _ (by omega), va_up_ne _ _ (by omega)]; exact hhi i h1 h2
    have hdd0 : 0 < dd * dd := Nat.mul_pos hd0 hd0
    have hRR4 : FRs ad fP m0 m4 := hRR1.tr (FRs.W hfPW (hR2.tr (hR3.tr hR4)))
    have hF4 := (hR2.tr (hR3.tr hR4)).F S1 hF1
    rcases h8 with h8 | h8
    · subst h8
      rw [if_pos rfl] at hans
      have key5 := c_Dv_partOf (l := l) (D := D) (ca := ca) (ia := 112) (iu := 113) S4 hW4 (by decide) (by decide) (by decide) (by decide) (by rw [g112]; exact hprod) (by rw [g113]; exact hd2) (by rw [g113]; exact hdd0) hpt
      rw [g112, g113, ← hans] at key5
      refine And.intro (fun _ => ?_) (fun g => absurd rfl g)
      refine And.intro (o2 S4) ⟨some (ad 4), r4 S4, And.intro (o2 S4) ⟨some (ad 324), rpr S4, And.intro (o2 S4) ⟨some (ad 326), rsq S4, ?_⟩⟩⟩
      refine And.intro (o4 S4) (And.intro (Nat.le_of_ble_eq_true rfl) (And.intro (Nat.le_of_ble_eq_true rfl) ⟨0, 0, _, Nat.le_refl _, Nat.le_refl _, key5, fun v m5 hq => ?_⟩))
      obtain ⟨rfl, hR5, V5, hW5, hsm⟩ := hq
      exact ⟨Nat.le_refl _, Nat.le_refl _, trivial, F', hA, rfl, hRR4.tr (FRs.W hfPW hR5), hR5.F S4 hF4, V5, hW5, fun i h1 h2 => by rw [hsm i h2 (by omega) (by omega) (by omega) (by omega)]; exact ghi i h1 h2⟩
    · subst h8
      rw [if_neg (by decide)] at hans
      have key5 := c_Dv_partOfNegative (l := l) (D := D) (ca := ca) (ia := 112) (iu := 113) S4 hW4 (by decide) (by decide) (by decide) (by decide) (by rw [g112]; exact hprod) (by rw [g113]; exact hd2) (by rw [g113]; exact hdd0) hpt
      rw [g112, g113, ← hans] at key5
      refine And.intro (fun g => absurd g (by decide)) (fun _ => ?_)
      refine And.intro (o2 S4) ⟨some (ad 4), r4 S4, And.intro (o2 S4) ⟨some (ad 324), rpr S4, And.intro (o2 S4) ⟨some (ad 326), rsq S4, ?_⟩⟩⟩
      refine And.intro (o4 S4) (And.intro (Nat.le_of_ble_eq_true rfl) (And.intro (Nat.le_of_ble_eq_true rfl) ⟨0, 0, _, Nat.le_refl _, Nat.le_refl _, key5, fun v m5 hq => ?_⟩))
      obtain ⟨rfl, hR5, V5, hW5, hsm⟩ := hq
      exact ⟨Nat.le_refl _, Nat.le_refl _, trivial, F', hA, rfl, hRR4.tr (FRs.W hfPW hR5), hR5.F S4 hF4, V5, hW5, fun i h1 h2 => by rw [hsm i h2 (by omega) (by omega) (by omega) (by omega)]; exact ghi i h1 h2⟩
  refine jm_run hX [(157, [0, 1, 2, 5, 8, 9, 10])] 100 ?_
  refine And.intro (o2 S) ⟨some (ad 1), r1 S, ?_⟩
  refine And.intro (o1 S) (And.intro (Nat.le_of_ble_eq_true rfl) (And.intro (Nat.le_of_ble_eq_true rfl) ⟨0, 0, _, Nat.le_refl _, Nat.le_refl _, kt1, fun v m' hq => ?_⟩))
  obtain ⟨ee, rfl⟩ := hq
  have ee := ee.symm
  subst ee
  refine And.intro (o2 S) ⟨some (ad 1), r1 S, And.intro (o2 S) ⟨some (ad 1), r1 S, ?_⟩⟩
  refine And.intro (o1 S) (And.intro (Nat.le_of_ble_eq_true rfl) (And.intro (Nat.le_of_ble_eq_true rfl) ⟨0, 0, _, Nat.le_refl _, Nat.le_refl _, klo, fun v m' hq => ?_⟩))
  obtain ⟨ee, rfl⟩ := hq
  have ee := ee.symm
  subst ee
  refine And.intro (o1 S) (And.intro (Nat.le_of_ble_eq_true rfl) (And.intro (Nat.le_of_ble_eq_true rfl) ⟨0, 0, _, Nat.le_refl _, Nat.le_refl _, kt2, fun v m' hq => ?_⟩))
  obtain ⟨ee, rfl⟩ := hq
  have ee := ee.symm
  subst ee
  have krl := c_Fl_readLine (l := l) (D := D) (ca := ca) S L hO hB hF hV
  refine And.intro (o2 S) (And.intro (Nat.le_of_ble_eq_true rfl) (And.intro (Nat.le_of_ble_eq_true rfl) ⟨0, 0, _, Nat.le_refl _, Nat.le_refl _, krl, fun v m1 hq => ?_⟩))
  rw [hne] at hq
  obtain ⟨rfl, hR1, hs1, F', V1, hF1, hA1, hW1, hhi1, hro1⟩ := hq
  have hG := hFG F' hA1
  have S1 := hR1.S S
  have L1 := hR1.L S hLp L
  have kg1 := c_Fl_putGram (l := l) (D := D) (ca := ca) (k := k) (col := n + 1) (tv := g1) S1 L1 hO hW1 hs1 hn9 hk (by omega) hg1
  rw [← nI_1, ← hs1] at kg1
  refine And.intro (o2 S1) ?_
  refine And.intro (o2 S1) (And.intro (Nat.le_of_ble_eq_true rfl) (And.intro (Nat.le_of_ble_eq_true rfl) ⟨0, 0, _, Nat.le_refl _, Nat.le_refl _, kg1, fun v m2 hq => ?_⟩))
  obtain ⟨rfl, hR2, V2, hW2, hg2a, hg2b⟩ := hq
  have S2 := hR2.S S1
  have hs2 : m2.2.2.1 (ad 2) 3 = nI n := by rw [hR2.I S1 (by decide)]; exact hs1
  have L2 := hR2.L S1 L1
  have kg2 := c_Fl_putGram (l := l) (D := D) (ca := ca) (k := k) (col := n + 2) (tv := g2) S2 L2 hO hW2 hs2 hn9 hk (by omega) hg2
  rw [← nI_add, ← hs2] at kg2
  refine And.intro (o2 S2) ?_
  refine And.intro (o2 S2) (And.intro (Nat.le_of_ble_eq_true rfl) (And.intro (Nat.le_of_ble_eq_true rfl) ⟨0, 0, _, Nat.le_refl _, Nat.le_refl _, kg2, fun v m3 hq => ?_⟩))
  obtain ⟨rfl, hR3, V3, hW3, hg3a, hg3b⟩ := hq
  have S3 := hR3.S S2
  have hs3 : m3.2.2.1 (ad 2) 3 = nI n := by rw [hR3.I S2 (by decide)]; exact hs2
  have hin : ∀ i, i < n → ∀ q, q < n + 3 → (V3 (12 * i + q) : Int) = bz_g n i q * am F' n f i q := by
    intro i hi q hq
    by_cases e2 : q = n + 2
    · subst e2
      rw [hg3a i hi, bz_am_r (by omega), hrhs, if_neg (show ¬ n + 2 = n by omega), if_neg (show ¬ n + 2 = n + 1 by omega)]
      rfl
    · rw [hg3b _ (by omega) (by omega)]
      by_cases e1 : q = n + 1
      · subst e1
        rw [hg2a i hi, bz_am_r (by omega), hrhs, if_neg (show ¬ n + 1 = n by omega), if_pos (show n + 1 = n + 1 from rfl)]
        rfl
      · rw [hg2b _ (by omega) (by omega)]
        have hro := hro1 i hi
        unfold rowOK at hro
        rw [hne] at hro
        by_cases e0 : q = n
        · subst e0
          rw [hro.2, bz_am_r (Nat.le_refl _), hrhs, if_pos rfl]
        · rw [hro.1 q (by omega)]
          have hb2 := (RA.at hB (by rw [hne]; exact hA1) (r := i) (by rw [hne]; exact hi)).2.1 (17 + i) (fk_m (by omega))
          by_cases e : i = q
          · subst e
            rw [if_pos rfl, bz_am_d hi hb2]
          · rw [if_neg e, bz_am_o (by omega) e]
  have hrb : ∀ q, n ≤ q → q < n + 3 → bz_cs (am F' n f) n q ≤ 9000000 := by
    intro q h1 h2
    rw [am_rhs h1]
    by_cases e0 : q = n
    · refine Nat.le_trans (Nat.le_of_eq (ds_nS_congr (fun i _ => ?_))) hfeed
      rw [hrhs, if_pos e0]
    · by_cases e1 : q = n + 1
      · refine Nat.le_trans (Nat.le_trans (Nat.le_of_eq (ds_nS_congr (fun i _ => ?_))) (gram_sum d g1 k n)) (by decide)
        rw [hrhs, if_neg e0, if_pos e1]
      · refine Nat.le_trans (Nat.le_trans (Nat.le_of_eq (ds_nS_congr (fun i _ => ?_))) (gram_sum d g2 k n)) (by decide)
        rw [hrhs, if_neg e0, if_neg e1]
  have kel := c_Fl_eliminate (l := l) (D := D) (ca := ca) (rs := 3) S3 hW3 hs3 hn9 (by decide) (by decide) (hG.1 f) (bz_B_of hn9 (fun q hq => am_cs hG hn9 hq) hrb) bzBig_ok hin
  refine And.intro (o2 S3) (And.intro (Nat.le_of_ble_eq_true rfl) (And.intro (Nat.le_of_ble_eq_true rfl) ⟨0, 0, _, Nat.le_refl _, Nat.le_refl _, kel, fun v m4 hq => ?_⟩))
  obtain ⟨rfl, hR4, V4, hW4, hhi4, hd4, hz4⟩ := hq
  have S4 := hR4.S S3
  have hs4 : m4.2.2.1 (ad 2) 3 = nI n := by rw [hR4.I S3 (by decide)]; exact hs3
  have hR14 := hR2.tr (hR3.tr hR4)
  have L4 := hR14.L S1 L1
  have hF4 := hR14.F S1 hF1
  have hd4n : V4 108 = dt F' n f := by unfold dt; omega
  have hz4n : ∀ q, q < 3 → ∀ i, i < n → V4 (12 * i + (n + q)) = zs F' n f q i := by
    intro q hq i hi
    have := hz4 i hi (n + q) (by omega) (by omega)
    unfold zs; omega
  have hz1 : ∀ q, q = 1 ∨ q = 2 → ∀ i, i < n → zs F' n f q i ≤ 166320 ^ 8 := by
    intro q hq i hi
    have h2 := (am_C (f := f) (j := n + q) (R := 1) hG hn9 hi (by omega) (by
      rcases hq with hq | hq
      · refine Nat.le_trans (Nat.le_of_eq (ds_nS_congr (fun i _ => ?_))) (gram_sum d g1 k n)
        rw [hrhs, if_neg (by omega), if_pos (by omega)]
      · refine Nat.le_trans (Nat.le_of_eq (ds_nS_congr (fun i _ => ?_))) (gram_sum d g2 k n)
        rw [hrhs, if_neg (by omega), if_neg (by omega)])).2
    unfold zs; omega
  have hpr : ∀ q, q < d.1.1 → p * d.1.1 + q < 9 := fun q hq => row_lt hK.2 hO.2.2.1 hp hq
  have hsum : ∀ q, q = 1 ∨ q = 2 → ds_nS (fun k => amz F' (zs F' n f q) (p * d.1.1 + k) n) d.1.1 ≤ 27 * 83160 * 166320 ^ 8 := by
    intro q hq
    refine Nat.le_trans (ds_nS_bd (c := 9 * (83160 * 166320 ^ 8)) (fun r hr => ?_)) (Nat.le_trans (Nat.mul_le_mul_right _ hK.2) (by decide))
    refine Nat.le_trans (ds_nS_bd (c := 83160 * 166320 ^ 8) (fun i hi => ?_)) (Nat.mul_le_mul_right _ hn9)
    exact Nat.mul_le_mul (hG.2.1 _ (fk_l (hpr r hr)) i hi) (hz1 q hq i hi)
  have hdd := am_d (f := f) hG hn9
  have hd9 : dt F' n f ≤ 27 * 83160 * 166320 ^ 8 := Nat.le_trans (show dt F' n f ≤ 166320 ^ 9 by unfold dt; omega) (by decide)
  have hrchb : ∀ q tv, q = 1 ∨ q = 2 → rchz d F' (dt F' n f) (zs F' n f q) tv p n ≤ 27 * 83160 * 166320 ^ 8 := by
    intro q tv hq
    unfold rchz
    split
    · exact hd9
    · split
      · exact hsum q hq
      · exact Nat.zero_le _
  have hFb : ∀ r, r < 9 → ∀ i, i < n → F' (27 + r) i < 1073741824 := fun r hr i hi => by
    have := hG.2.1 _ (fk_l hr) i hi
    omega
  have ert : ∀ (W : Nat → Nat) q tv, (∀ i, i < n → W (12 * i + (n + q)) = zs F' n f q i) → W 108 = dt F' n f → rch d F' W tv p (n + q) n = rchz d F' (dt F' n f) (zs F' n f q) tv p n ∧ ds_nS (fun k => amt F' W (p * d.1.1 + k) (n + q) n) d.1.1 = ds_nS (fun k => amz F' (zs F' n f q) (p * d.1.1 + k) n) d.1.1 := by
    intro W q tv h1 h2
    have e1 : ds_nS (fun k => amt F' W (p * d.1.1 + k) (n + q) n) d.1.1 = ds_nS (fun k => amz F' (zs F' n f q) (p * d.1.1 + k) n) d.1.1 := ds_nS_congr (fun r _ => amt_z h1)
    refine ⟨?_, e1⟩
    unfold rch rchz
    rw [e1, h2]
  have e41 := ert V4 1 g1 (hz4n 1 (by decide)) hd4n
  have kr1 := c_Fl_putReached (l := l) (D := D) (ca := ca) (p := p) (col := n + 1) (x := 109) (tv := g1) S4 L4 hO hF4 hW4 hs4 hn9 hp (by omega) (by decide) (by decide) hFb (by rw [e41.2]; exact Nat.lt_of_le_of_lt (hsum 1 (Or.inl rfl)) (by decide))
  rw [e41.1, ← nI_1, ← hs4] at kr1
  refine And.intro (o2 S4) (And.intro (o2 S4) ⟨some (ad 318), rf S4, ?_⟩)
  refine And.intro (o2 S4) (And.intro (Nat.le_of_ble_eq_true rfl) (And.intro (Nat.le_of_ble_eq_true rfl) ⟨0, 0, _, Nat.le_refl _, Nat.le_refl _, kr1, fun v m5 hq => ?_⟩))
  obtain ⟨rfl, hR5, hW5⟩ := hq
  have S5 := hR5.S S4
  have hs5 : m5.2.2.1 (ad 2) 3 = nI n := by rw [hR5.I S4 (by decide)]; exact hs4
  have L5 := hR5.L S4 L4
  have hF5 := hR5.F S4 hF4
  generalize hfie : rchz d F' (dt F' n f) (zs F' n f 1) g1 p n = fi at *
  have e52 := ert (va_up V4 109 fi) 2 g2 (fun i hi => by rw [va_up_ne _ _ (by omega)]; exact hz4n 2 (by decide) i hi) (by rw [va_up_ne _ _ (by decide)]; exact hd4n)
  have kr2 := c_Fl_putReached (l := l) (D := D) (ca := ca) (p := p) (col := n + 2) (x := 110) (tv := g2) S5 L5 hO hF5 hW5 hs5 hn9 hp (by omega) (by decide) (by decide) hFb (by rw [e52.2]; exact Nat.lt_of_le_of_lt (hsum 2 (Or.inr rfl)) (by decide))
  rw [e52.1, ← nI_add, ← hs5] at kr2
  refine And.intro (o2 S5) (And.intro (o2 S5) ⟨some (ad 320), rs S5, ?_⟩)
  refine And.intro (o2 S5) (And.intro (Nat.le_of_ble_eq_true rfl) (And.intro (Nat.le_of_ble_eq_true rfl) ⟨0, 0, _, Nat.le_refl _, Nat.le_refl _, kr2, fun v m6 hq => ?_⟩))
  obtain ⟨rfl, hR6, hW6⟩ := hq
  have S6 := hR6.S S5
  have hs6 : m6.2.2.1 (ad 2) 3 = nI n := by rw [hR6.I S5 (by decide)]; exact hs5
  have hF6 := hR6.F S5 hF5
  have hfib : fi ≤ 27 * 83160 * 166320 ^ 8 := by rw [← hfie]; exact hrchb 1 g1 (Or.inl rfl)
  have hseb : rchz d F' (dt F' n f) (zs F' n f 2) g2 p n ≤ 27 * 83160 * 166320 ^ 8 := hrchb 2 g2 (Or.inr rfl)
  generalize hsee : rchz d F' (dt F' n f) (zs F' n f 2) g2 p n = se at *
  have hRR6 : FRs ad fP m0 m6 := hR1.tr (FRs.W hfPW (hR14.tr (hR5.tr hR6)))
  have q109 : va_up (va_up V4 109 fi) 110 se 109 = fi := by rw [va_up_ne _ _ (by decide), va_up_self]
  have q110 : va_up (va_up V4 109 fi) 110 se 110 = se := va_up_self _ _ _
  have q108 : va_up (va_up V4 109 fi) 110 se 108 = dt F' n f := by rw [va_up_ne _ _ (by decide), va_up_ne _ _ (by decide)]; exact hd4n
  have qz : ∀ i, i < n → va_up (va_up V4 109 fi) 110 se (12 * i + n) = zs F' n f 0 i := fun i hi => by
    rw [va_up_ne _ _ (by omega), va_up_ne _ _ (by omega)]; exact hz4n 0 (by decide) i hi
  have qhi : ∀ i, 118 ≤ i → i < 132 → va_up (va_up V4 109 fi) 110 se i = V i := fun i h1 h2 => by
    rw [va_up_ne _ _ (by omega), va_up_ne _ _ (by omega), hhi4 i (by omega) h2, hg3b i h2 (by omega), hg2b i h2 (by omega), hhi1 i (by omega)]
  have hanse : slp d F' j k o p pt = sgd fi se (psz F' (zs F' n f 0) k (j * d.1.1) d.1.1) (dt F' n f) pt := by
    rw [hsl]
    unfold slG
    rw [hne, hfie, hsee]
  have kc := w_cmp (l := l) (D := D) (ca := ca) (i := 109) (j := 110) S6 hW6 (by decide) (by decide)
  rw [q109, q110] at kc
  refine And.intro (o2 S6) ⟨some (ad 318), rf S6, And.intro (o2 S6) ⟨some (ad 320), rs S6, ?_⟩⟩
  refine And.intro (S6.wh 109 (by decide)).1 (And.intro (Nat.le_of_ble_eq_true rfl) (And.intro (Nat.le_of_ble_eq_true rfl) ⟨0, 0, _, Nat.le_refl _, Nat.le_refl _, kc, fun v m7 hq => ?_⟩))
  obtain ⟨ee, rfl⟩ := hq
  have ee := ee.symm
  subst ee
  refine And.intro (fun g => ?_) (fun g => ?_)
  · rw [cmp_ge] at g
    refine And.intro (fun _ => ?_) (fun g => absurd rfl g)
    refine And.intro (o2 S6) ⟨some (ad 318), rf S6, ?_⟩
    refine And.intro (fun _ => ?_) (fun g => absurd rfl g)
    refine And.intro (o2 S6) ⟨some (ad 320), rs S6, ?_⟩
    refine fin F' m6 _ 109 110 0 hA1 hRR6 hs6 hF6 hW6 qhi (Or.inl ⟨rfl, rfl⟩) (Or.inl rfl) (by rw [q109, q110]; omega) (by rw [q109]; exact hfib) q108 qz ?_
    rw [hanse, q109, q110, if_pos rfl]
    unfold sgd
    rw [if_neg g]
  · rw [cmp_ge] at g
    have g := Classical.not_not.mp g
    refine And.intro (fun g => absurd g (by decide)) (fun _ => ?_)
    refine And.intro (o2 S6) ⟨some (ad 320), rs S6, ?_⟩
    refine And.intro (fun g => absurd g (by decide)) (fun _ => ?_)
    refine And.intro (o2 S6) ⟨some (ad 318), rf S6, ?_⟩
    refine fin F' m6 _ 110 109 1 hA1 hRR6 hs6 hF6 hW6 qhi (Or.inr ⟨rfl, rfl⟩) (Or.inr rfl) (by rw [q109, q110]; omega) (by rw [q110]; exact hseb) q108 qz ?_
    rw [hanse, q109, q110, if_neg (by decide)]
    unfold sgd
    rw [if_pos g]
end FLS
