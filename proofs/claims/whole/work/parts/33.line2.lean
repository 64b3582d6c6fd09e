/-! What gets away, in pure words: as the class goes through the rows, in its order. -/
def bI (b : Bool) : Int32 := if b then 1 else 0
def lvas (d : LD) (st : Nat → Bool) (j k : Nat) : Nat → Bool
  | 0 => false
  | o + 1 => lvas d st j k o || (decide (0 < d.2.2.2.1 (3 * (j * d.1.1 + k) + o)) && (decide ((d.2.2.1 (3 * j + o)).toInt < 0) || st ((d.2.2.1 (3 * j + o)).toInt.toNat * d.1.1 + k)))
def spr1a (d : LD) (st : Nat → Bool) (j k : Nat) : Nat → Bool := if d.2.2.2.2.1 (j * d.1.1 + k) < 27720 ∧ lvas d st j k (d.2.1 j) = true then va_up st (j * d.1.1 + k) true else st
def spr1 (d : LD) (st : Nat → Bool) (j k : Nat) : Nat → Bool := if 0 < d.2.2.2.2.1 (j * d.1.1 + k) ∧ lvas d (spr1a d st j k) j (d.2.2.2.2.2.1 (j * d.1.1 + k)) (d.2.1 j) = true then va_up (spr1a d st j k) (j * d.1.1 + k) true else spr1a d st j k
def sprK (d : LD) (st : Nat → Bool) (j : Nat) : Nat → Nat → Bool
  | 0 => st
  | k + 1 => spr1 d (sprK d st j k) j k
def sprM (d : LD) (st : Nat → Bool) : Nat → Nat → Bool
  | 0 => st
  | j + 1 => sprK d (sprM d st j) j d.1.1
def rnds (d : LD) : Nat → Nat → Bool
  | 0 => fun _ => false
  | n + 1 => sprM d (rnds d n) d.1.2.1
/-- some kind of machine j does not get away -/
def stk (d : LD) (j : Nat) : Prop := ∃ k, k < d.1.1 ∧ rnds d 9 (j * d.1.1 + k) = false
/-- the answer of firstStuck -/
def fsOK (d : LD) (v : Int32) : Prop := (∃ j, j < d.1.2.1 ∧ v = nI j ∧ stk d j ∧ ∀ i, i < j → ¬ stk d i) ∨ (v = -1 ∧ ∀ i, i < d.1.2.1 → ¬ stk d i)
abbrev gaR (st : Nat → Bool) : Nat → Int32 := fun i => bI (st i)
theorem gaR_up (st : Nat → Bool) (r : Nat) : va_up (gaR st) r 1 = gaR (va_up st r true) := by
  funext i
  by_cases h : i = r
  · subst h; rw [va_up_self]; show 1 = bI (va_up st i true i); rw [va_up_self]; rfl
  · rw [va_up_ne _ _ h]; show bI (st i) = bI (va_up st r true i); rw [va_up_ne _ _ h]
theorem LnV.ga {m : jm_M} {ad : Nat → Nat} {d : LD} (S : SST m ad) (L : LnV m ad d) (g : Nat → Int32) : LnV (uA m (ad 14) g) ad d := by
  have hn : ∀ k, k < 14 → (uA m (ad 14) g).2.2.1 (ad k) = m.2.2.1 (ad k) := fun k hk => va_up_ne _ _ (S.ne (i := k) (j := 14) (Or.inl (by omega)) (Or.inl (by decide)) (by omega))
  obtain ⟨h1, h2, h3, h4, h5, h6, h7, h8, h9⟩ := L
  refine ⟨?_, ?_, ?_, ?_, ?_, ?_, ?_, ?_, h9⟩
  · rw [hn 1 (by decide)]; exact h1
  · rw [hn 1 (by decide)]; exact h2
  · rw [hn 1 (by decide)]; exact h3
  · rw [hn 5 (by decide)]; exact h4
  · rw [hn 6 (by decide)]; exact h5
  · rw [hn 7 (by decide)]; exact h6
  · rw [hn 8 (by decide)]; exact h7
  · rw [hn 9 (by decide)]; exact h8
theorem row_lt {K M j k : Nat} (hK : K ≤ 3) (hM : M ≤ 3) (hj : j < M) (hk : k < K) : j * K + k < 9 := by
  have : j * K ≤ 2 * 3 := Nat.mul_le_mul (by omega) hK
  rcases Nat.lt_or_ge j 2 with q | q
  · have : j * K ≤ 1 * 3 := Nat.mul_le_mul (by omega) hK
    omega
  · have e : j = 2 := by omega
    subst e
    omega
section LN2
variable {l : Launch} {D : va_G} {ca : Nat → ClassId}
theorem c_Ln_leavesAs {m : jm_M} {ad : Nat → Nat} {d : LD} {st : Nat → Bool} {j k : Nat} (S : SST m ad) (L : LnV m ad d) (hO : LOK d) (hg : m.2.2.1 (ad 14) = gaR st) (hj : j < d.1.2.1) (hk : k < d.1.1) : jm_C l D ca n_Ln_leavesAs [.ref (ad 1), .int (nI j), .int (nI k)] m 0 0 (fun v m' => m' = m ∧ v = some (.int (bI (lvas d st j k (d.2.1 j))))) := by
  refine jm_C_of (cd := cd_Ln_leavesAs) (ini := false) (by decide +kernel) ok_Ln_leavesAs (fun h => by cases h) (Nat.le_of_ble_eq_true rfl) ?_
  intro X hX
  have o1 : jm_ok m (ad 1) 2 := S.ok 1 (Or.inl (by decide))
  have o5 : jm_ok m (ad 5) 50 := S.ok 5 (Or.inl (by decide))
  have r5 : m.2.2.2.2 (ad 1) 3 = some (ad 5) := S.2.2.1 (1, 3, 5) (by decide)
  have l5 : (m.2.1 (ad 5)).2 = 3 := S.len 5 (Or.inl (by decide))
  have o14 : jm_ok m (ad 14) 52 := S.ok 14 (Or.inl (by decide))
  have r14 : m.2.2.2.2 (ad 1) 12 = some (ad 14) := S.2.2.1 (1, 12, 14) (by decide)
  have l14 : (m.2.1 (ad 14)).2 = 9 := S.len 14 (Or.inl (by decide))
  have hK := hO.1
  have hM := hO.2.1
  have hou := hO.2.2.2.1 j hj
  have hrow := row_lt hK.2 hM hj hk
  have eou : m.2.2.1 (ad 5) (nI j).toNatClampNeg = nI (d.2.1 j) := by rw [nI_c (by omega), L.2.2.2.1]
  have loop : ∀ (e o : Nat), o + e = d.2.1 j → lvas d st j k o = false → X 2 [(0, .ref (ad 1)), (1, .int (nI j)), (2, .int (nI k)), (3, .int (nI o))] [] m 0 0 := by
    intro e
    induction e with
    | zero =>
      intro o ho hf
      refine jm_run hX [] 20 ?_
      refine And.intro o1 ⟨some (ad 5), r5, And.intro o5 (And.intro (vin_of l5 (by omega) (by decide)) ?_)⟩
      refine And.intro (fun _ => ?_) (fun g => ?_)
      · refine ⟨Nat.le_refl _, Nat.le_refl _, Or.inl rfl, rfl, ?_⟩
        rw [show d.2.1 j = o by omega, hf]; rfl
      · have g : ¬ m.2.2.1 (ad 5) (nI j).toNatClampNeg ≤ nI o := g
        rw [eou] at g
        exact absurd (nI_le (by omega) (by omega)) g
    | succ e ih =>
      intro o ho hf
      have hfin : ∀ b, lvas d st j k (o + 1) = b → b = true → lvas d st j k (d.2.1 j) = true := by
        intro b hb hbt
        subst hbt
        have mono : ∀ n, lvas d st j k (o + 1 + n) = true := by
          intro n
          induction n with
          | zero => exact hb
          | succ n ihn =>
            show (lvas d st j k (o + 1 + n) || _) = true
            rw [ihn]; rfl
        have := mono e
        rw [show o + 1 + e = d.2.1 j by omega] at this
        exact this
      have hs27 := hO.2.2.2.2.2.1 _ hrow o (by omega)
      have hjo := hO.2.2.2.2.1 (3 * j + o) (by omega)
      have key1 := c_Ln_target (l := l) (D := D) (ca := ca) (j := j) (o := o) S L (by omega) (by omega)
      have key2 := c_Ln_shareOf (l := l) (D := D) (ca := ca) (j := j) (k := k) (o := o) S L hrow (by omega)
      have hun : lvas d st j k (o + 1) = (decide (0 < d.2.2.2.1 (3 * (j * d.1.1 + k) + o)) && (decide ((d.2.2.1 (3 * j + o)).toInt < 0) || st ((d.2.2.1 (3 * j + o)).toInt.toNat * d.1.1 + k))) := by
        show (lvas d st j k o || _) = _
        rw [hf, Bool.false_or]
      have kn : lvas d st j k (o + 1) = false → X 2 [(0, .ref (ad 1)), (1, .int (nI j)), (2, .int (nI k)), (3, .int (nI o + 1))] [] m 0 0 := fun h => by
        rw [nI_1]; exact ih (o + 1) (by omega) h
      generalize hsh : d.2.2.2.1 (3 * (j * d.1.1 + k) + o) = sv at *
      generalize hto : d.2.2.1 (3 * j + o) = tv at *
      refine jm_run hX [(2, [0, 1, 2, 3])] 40 ?_
      refine And.intro o1 ⟨some (ad 5), r5, And.intro o5 (And.intro (vin_of l5 (by omega) (by decide)) ?_)⟩
      refine And.intro (fun g => ?_) (fun _ => ?_)
      · have g : m.2.2.1 (ad 5) (nI j).toNatClampNeg ≤ nI o := g
        rw [eou] at g
        exact absurd g (nI_ge (by omega) (by omega))
      refine And.intro o1 (And.intro (Nat.le_of_ble_eq_true rfl) (And.intro (Nat.le_of_ble_eq_true rfl) ⟨0, 0, _, Nat.le_refl _, Nat.le_refl _, key1, fun v m' hq => ?_⟩))
      obtain ⟨ee, rfl⟩ := hq
      have ee := ee.symm
      subst ee
      refine And.intro o1 (And.intro (Nat.le_of_ble_eq_true rfl) (And.intro (Nat.le_of_ble_eq_true rfl) ⟨0, 0, _, Nat.le_refl _, Nat.le_refl _, key2, fun v m' hq => ?_⟩))
      obtain ⟨ee, rfl⟩ := hq
      have ee := ee.symm
      subst ee
      refine And.intro (fun g => ?_) (fun g => ?_)
      · have g : nI sv ≤ 0 := g
        have hs0 : sv = 0 := by
          rcases Nat.eq_zero_or_pos sv with q | q
          · exact q
          · exact absurd g (nI_nle q (by omega))
        refine kn ?_
        rw [hun, hs0]; rfl
      · have g : ¬ nI sv ≤ 0 := g
        have hs0 : 0 < sv := by
          rcases Nat.eq_zero_or_pos sv with q | q
          · rw [q] at g; exact absurd (by decide) g
          · exact q
        have hd1 : decide (0 < sv) = true := decide_eq_true hs0
        refine And.intro (fun g2 => ?_) (fun g2 => ?_)
        · rw [ilt0] at g2
          refine ⟨Nat.le_refl _, Nat.le_refl _, Or.inr rfl, rfl, ?_⟩
          rw [hfin _ hun (by rw [hd1, decide_eq_true g2]; rfl)]; rfl
        · rw [ilt0] at g2
          have et : tv = nI tv.toInt.toNat := i_of (by omega)
          have hto3 : tv.toInt.toNat < d.1.2.1 := by
            rcases hjo with q | q | q <;> omega
          have hrow2 := row_lt hK.2 hM hto3 hk
          have key3 := c_Ln_row (l := l) (D := D) (ca := ca) (j := tv.toInt.toNat) (k := k) S L
          rw [← et] at key3
          refine And.intro o1 ⟨some (ad 14), r14, ?_⟩
          refine And.intro o1 (And.intro (Nat.le_of_ble_eq_true rfl) (And.intro (Nat.le_of_ble_eq_true rfl) ⟨0, 0, _, Nat.le_refl _, Nat.le_refl _, key3, fun v m' hq => ?_⟩))
          obtain ⟨ee, rfl⟩ := hq
          have ee := ee.symm
          subst ee
          refine And.intro o14 (And.intro (vin_of l14 hrow2 (by decide)) ?_)
          have ev : m.2.2.1 (ad 14) (nI (tv.toInt.toNat * d.1.1 + k)).toNatClampNeg = bI (st (tv.toInt.toNat * d.1.1 + k)) := by
            rw [nI_c (by omega), hg]
          have hd2 : decide (tv.toInt < 0) = false := decide_eq_false g2
          refine And.intro (fun g3 => ?_) (fun g3 => ?_)
          · have g3 : m.2.2.1 (ad 14) (nI (tv.toInt.toNat * d.1.1 + k)).toNatClampNeg = 0 := g3
            rw [ev] at g3
            refine kn ?_
            rw [hun, hd1, hd2]
            cases hst : st (tv.toInt.toNat * d.1.1 + k) with
            | true => rw [hst] at g3; exact absurd g3 (by decide)
            | false => rfl
          · have g3 : ¬ m.2.2.1 (ad 14) (nI (tv.toInt.toNat * d.1.1 + k)).toNatClampNeg = 0 := g3
            rw [ev] at g3
            refine ⟨Nat.le_refl _, Nat.le_refl _, Or.inr rfl, rfl, ?_⟩
            rw [hfin _ hun (by
              rw [hd1, hd2]
              cases hst : st (tv.toInt.toNat * d.1.1 + k) with
              | true => rfl
              | false => rw [hst] at g3; exact absurd rfl g3)]
            rfl
  refine jm_run hX [(2, [0, 1, 2, 3])] 10 ?_
  exact loop (d.2.1 j) 0 (by omega) rfl
theorem c_Ln_spread {m : jm_M} {ad : Nat → Nat} {d : LD} {st : Nat → Bool} (S : SST m ad) (L : LnV m ad d) (hO : LOK d) : jm_C l D ca n_Ln_spreadGetsAway [.ref (ad 1)] (uA m (ad 14) (gaR st)) 0 0 (fun v m' => v = none ∧ m' = uA m (ad 14) (gaR (sprM d st d.1.2.1))) := by
  refine jm_C_of (cd := cd_Ln_spreadGetsAway) (ini := false) (by decide +kernel) ok_Ln_spreadGetsAway (fun h => by cases h) (Nat.le_of_ble_eq_true rfl) ?_
  intro X hX
  have o1 : jm_ok m (ad 1) 2 := S.ok 1 (Or.inl (by decide))
  have o8 : jm_ok m (ad 8) 50 := S.ok 8 (Or.inl (by decide))
  have r8 : m.2.2.2.2 (ad 1) 6 = some (ad 8) := S.2.2.1 (1, 6, 8) (by decide)
  have l8 : (m.2.1 (ad 8)).2 = 9 := S.len 8 (Or.inl (by decide))
  have o9 : jm_ok m (ad 9) 50 := S.ok 9 (Or.inl (by decide))
  have r9 : m.2.2.2.2 (ad 1) 7 = some (ad 9) := S.2.2.1 (1, 7, 9) (by decide)
  have l9 : (m.2.1 (ad 9)).2 = 9 := S.len 9 (Or.inl (by decide))
  have o14 : jm_ok m (ad 14) 52 := S.ok 14 (Or.inl (by decide))
  have r14 : m.2.2.2.2 (ad 1) 12 = some (ad 14) := S.2.2.1 (1, 12, 14) (by decide)
  have l14 : (m.2.1 (ad 14)).2 = 9 := S.len 14 (Or.inl (by decide))
  have hK := hO.1
  have hM := hO.2.1
  have outer : ∀ (e j : Nat), j + e = d.1.2.1 → X 2 [(0, .ref (ad 1)), (1, .int (nI j))] [] (uA m (ad 14) (gaR (sprM d st j))) 0 0 := by
    intro e
    induction e with
    | zero =>
      intro j hj
      have Lg := L.ga S (gaR (sprM d st j))
      refine jm_run hX [] 20 ?_
      refine And.intro o1 (And.intro (fun _ => ?_) (fun g => ?_))
      · refine ⟨Nat.le_refl _, Nat.le_refl _, trivial, rfl, ?_⟩
        rw [show d.1.2.1 = j by omega]
      · have g : ¬ (uA m (ad 14) (gaR (sprM d st j))).2.2.1 (ad 1) 1 ≤ nI j := g
        rw [Lg.2.1] at g
        exact absurd (nI_le (by omega) (by omega)) g
    | succ e ihe =>
      intro j hj
      have hj3 : j < d.1.2.1 := by omega
      generalize hst0 : sprM d st j = st0
      have hnext : sprM d st (j + 1) = sprK d st0 j d.1.1 := by rw [← hst0]; rfl
      have inner : ∀ (f k : Nat), k + f = d.1.1 → X 12 [(0, .ref (ad 1)), (1, .int (nI j)), (2, .int (nI k))] [] (uA m (ad 14) (gaR (sprK d st0 j k))) 0 0 := by
        intro f
        induction f with
        | zero =>
          intro k hk
          have Lg := L.ga S (gaR (sprK d st0 j k))
          refine jm_run hX [(2, [0, 1])] 20 ?_
          refine And.intro o1 (And.intro (fun _ => ?_) (fun g => ?_))
          · have kk := ihe (j + 1) (by omega)
            rw [hnext, ← nI_1, show d.1.1 = k by omega] at kk
            exact kk
          · have g : ¬ (uA m (ad 14) (gaR (sprK d st0 j k))).2.2.1 (ad 1) 0 ≤ nI k := g
            rw [Lg.1] at g
            exact absurd (nI_le (by omega) (by omega)) g
        | succ f ihf =>
          intro k hk
          have hk3 : k < d.1.1 := by omega
          have hrow := row_lt hK.2 hM hj3 hk3
          generalize hst1 : sprK d st0 j k = st1
          have hn1 : sprK d st0 j (k + 1) = spr1 d st1 j k := by rw [← hst1]; rfl
          have kk := ihf (k + 1) (by omega)
          rw [hn1, ← nI_1] at kk
          have Sg : ∀ g, SST (uA m (ad 14) g) ad := fun g => S
          have ec : ∀ g, (uA m (ad 14) g).2.2.1 (ad 8) (nI (j * d.1.1 + k)).toNatClampNeg = nI (d.2.2.2.2.1 (j * d.1.1 + k)) := fun g => by
            rw [nI_c (by omega), (L.ga S g).2.2.2.2.2.2.1]
          have eb : ∀ g, (uA m (ad 14) g).2.2.1 (ad 9) (nI (j * d.1.1 + k)).toNatClampNeg = nI (d.2.2.2.2.2.1 (j * d.1.1 + k)) := fun g => by
            rw [nI_c (by omega), (L.ga S g).2.2.2.2.2.2.2.1]
          have hcr := hO.2.2.2.2.2.2.1 _ hrow
          have hbe := hO.2.2.2.2.2.2.2.1 _ hrow
          -- behind the first question
          have second : X 55 [(0, .ref (ad 1)), (1, .int (nI j)), (2, .int (nI k)), (3, .int (nI (j * d.1.1 + k)))] [] (uA m (ad 14) (gaR (spr1a d st1 j k))) 0 0 := by
            generalize hst2 : spr1a d st1 j k = st2
            have hs2 : spr1 d st1 j k = if 0 < d.2.2.2.2.1 (j * d.1.1 + k) ∧ lvas d st2 j (d.2.2.2.2.2.1 (j * d.1.1 + k)) (d.2.1 j) = true then va_up st2 (j * d.1.1 + k) true else st2 := by
              unfold spr1; rw [hst2]
            have key := c_Ln_leavesAs (l := l) (D := D) (ca := ca) (m := uA m (ad 14) (gaR st2)) (st := st2) (j := j) (k := d.2.2.2.2.2.1 (j * d.1.1 + k)) (Sg _) (L.ga S _) hO (va_up_self _ _ _) hj3 hbe
            rw [← eb (gaR st2)] at key
            refine jm_run hX [(12, [0, 1, 2])] 40 ?_
            refine And.intro o1 ⟨some (ad 8), r8, And.intro o8 (And.intro (vin_of l8 hrow (by decide)) ?_)⟩
            refine And.intro (fun g => ?_) (fun g => ?_)
            · have g : (uA m (ad 14) (gaR st2)).2.2.1 (ad 8) (nI (j * d.1.1 + k)).toNatClampNeg ≤ 0 := g
              rw [ec] at g
              have hc0 : ¬ 0 < d.2.2.2.2.1 (j * d.1.1 + k) := fun q => nI_nle q (by omega) g
              rw [hs2, if_neg (fun z => hc0 z.1)] at kk
              exact kk
            · have g : ¬ (uA m (ad 14) (gaR st2)).2.2.1 (ad 8) (nI (j * d.1.1 + k)).toNatClampNeg ≤ 0 := g
              rw [ec] at g
              have hc0 : 0 < d.2.2.2.2.1 (j * d.1.1 + k) := by
                rcases Nat.eq_zero_or_pos (d.2.2.2.2.1 (j * d.1.1 + k)) with q | q
                · rw [q] at g; exact absurd (by decide) g
                · exact q
              refine And.intro o1 ⟨some (ad 9), r9, And.intro o9 (And.intro (vin_of l9 hrow (by decide)) ?_)⟩
              refine And.intro o1 (And.intro (Nat.le_of_ble_eq_true rfl) (And.intro (Nat.le_of_ble_eq_true rfl) ⟨0, 0, _, Nat.le_refl _, Nat.le_refl _, key, fun v m' hq => ?_⟩))
              obtain ⟨rfl, rfl⟩ := hq
              cases hlv : lvas d st2 j (d.2.2.2.2.2.1 (j * d.1.1 + k)) (d.2.1 j) with
              | false =>
                refine And.intro (fun _ => ?_) (fun g => absurd rfl g)
                rw [hs2, if_neg (fun z => by rw [hlv] at z; exact absurd z.2 (by decide))] at kk
                exact kk
              | true =>
                refine And.intro (fun g => absurd g (by decide)) (fun _ => ?_)
                refine And.intro o1 ⟨some (ad 14), r14, ?_⟩
                refine And.intro o14 (And.intro (vin_of l14 hrow (by decide)) (And.intro (Or.inr rfl) ?_))
                rw [hs2, if_pos ⟨hc0, hlv⟩, ← gaR_up, ← uI_uA] at kk
                have kk2 : X 12 [(0, .ref (ad 1)), (1, .int (nI j)), (2, .int (nI k + 1))] [] (uI (uA m (ad 14) (gaR st2)) (ad 14) (nI (j * d.1.1 + k)).toNatClampNeg 1) 0 0 := by
                  rw [nI_c (by omega)]; exact kk
                exact kk2
          have hs1 : spr1a d st1 j k = if d.2.2.2.2.1 (j * d.1.1 + k) < 27720 ∧ lvas d st1 j k (d.2.1 j) = true then va_up st1 (j * d.1.1 + k) true else st1 := rfl
          have key := c_Ln_leavesAs (l := l) (D := D) (ca := ca) (m := uA m (ad 14) (gaR st1)) (st := st1) (j := j) (k := k) (Sg _) (L.ga S _) hO (va_up_self _ _ _) hj3 hk3
          have Lg := L.ga S (gaR st1)
          refine jm_run hX [(55, [0, 1, 2, 3])] 40 ?_
          refine And.intro o1 (And.intro (fun g => ?_) (fun _ => ?_))
          · have g : (uA m (ad 14) (gaR st1)).2.2.1 (ad 1) 0 ≤ nI k := g
            rw [Lg.1] at g
            exact absurd g (nI_ge hk3 (by omega))
          refine And.intro o1 (And.intro (Nat.le_of_ble_eq_true rfl) (And.intro (Nat.le_of_ble_eq_true rfl) ⟨0, 0, _, Nat.le_refl _, Nat.le_refl _, c_Ln_row (m := uA m (ad 14) (gaR st1)) (Sg _) Lg, fun v m' hq => ?_⟩))
          obtain ⟨rfl, rfl⟩ := hq
          refine And.intro o1 ⟨some (ad 8), r8, And.intro o8 (And.intro (vin_of l8 hrow (by decide)) ?_)⟩
          refine And.intro (fun g => ?_) (fun g => ?_)
          · have g : (27720 : Int32) ≤ (uA m (ad 14) (gaR st1)).2.2.1 (ad 8) (nI (j * d.1.1 + k)).toNatClampNeg := g
            rw [ec] at g
            have hc : ¬ d.2.2.2.2.1 (j * d.1.1 + k) < 27720 := fun q => nI_ge q (by decide) g
            rw [hs1, if_neg (fun z => hc z.1)] at second
            exact second
          · have g : ¬ (27720 : Int32) ≤ (uA m (ad 14) (gaR st1)).2.2.1 (ad 8) (nI (j * d.1.1 + k)).toNatClampNeg := g
            rw [ec] at g
            have hc : d.2.2.2.2.1 (j * d.1.1 + k) < 27720 := by
              rcases Nat.lt_or_ge (d.2.2.2.2.1 (j * d.1.1 + k)) 27720 with q | q
              · exact q
              · exact absurd (nI_le q (by omega)) g
            refine And.intro o1 (And.intro (Nat.le_of_ble_eq_true rfl) (And.intro (Nat.le_of_ble_eq_true rfl) ⟨0, 0, _, Nat.le_refl _, Nat.le_refl _, key, fun v m' hq => ?_⟩))
            obtain ⟨rfl, rfl⟩ := hq
            cases hlv : lvas d st1 j k (d.2.1 j) with
            | false =>
              refine And.intro (fun _ => ?_) (fun g => absurd rfl g)
              rw [hs1, if_neg (fun z => by rw [hlv] at z; exact absurd z.2 (by decide))] at second
              exact second
            | true =>
              refine And.intro (fun g => absurd g (by decide)) (fun _ => ?_)
              refine And.intro o1 ⟨some (ad 14), r14, ?_⟩
              refine And.intro o14 (And.intro (vin_of l14 hrow (by decide)) (And.intro (Or.inr rfl) ?_))
              rw [hs1, if_pos ⟨hc, hlv⟩, ← gaR_up, ← uI_uA] at second
              have k2 : X 55 [(0, .ref (ad 1)), (1, .int (nI j)), (2, .int (nI k)), (3, .int (nI (j * d.1.1 + k)))] [] (uI (uA m (ad 14) (gaR st1)) (ad 14) (nI (j * d.1.1 + k)).toNatClampNeg 1) 0 0 := by
                rw [nI_c (by omega)]; exact second
              exact k2
      have Lg := L.ga S (gaR st0)
      refine jm_run hX [(12, [0, 1, 2])] 20 ?_
      refine And.intro o1 (And.intro (fun g => ?_) (fun _ => ?_))
      · have g : (uA m (ad 14) (gaR st0)).2.2.1 (ad 1) 1 ≤ nI j := g
        rw [Lg.2.1] at g
        exact absurd g (nI_ge hj3 (by omega))
      exact inner d.1.1 0 (by omega)
  refine jm_run hX [(2, [0, 1])] 10 ?_
  exact outer d.1.2.1 0 (by omega)
end LN2
