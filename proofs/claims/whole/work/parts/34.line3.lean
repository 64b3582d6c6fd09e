theorem spr1_hi {d : LD} {st : Nat → Bool} {j k i : Nat} (h : i ≠ j * d.1.1 + k) : spr1 d st j k i = st i := by
  have h1 : spr1a d st j k i = st i := by
    unfold spr1a
    split
    · exact va_up_ne _ _ h
    · rfl
  unfold spr1
  split
  · rw [va_up_ne _ _ h, h1]
  · exact h1
theorem rnds_hi {d : LD} (hO : LOK d) {i : Nat} (hi : 9 ≤ i) : ∀ n, rnds d n i = false
  | 0 => rfl
  | n + 1 => by
    have hk : ∀ (st : Nat → Bool) (j : Nat), j < d.1.2.1 → ∀ k, k ≤ d.1.1 → sprK d st j k i = st i := by
      intro st j hj k
      induction k with
      | zero => intro _; rfl
      | succ k ih =>
        intro hk
        show spr1 d (sprK d st j k) j k i = st i
        have := row_lt hO.1.2 hO.2.1 hj (show k < d.1.1 by omega)
        rw [spr1_hi (by omega), ih (by omega)]
    have hm : ∀ j, j ≤ d.1.2.1 → sprM d (rnds d n) j i = rnds d n i := by
      intro j
      induction j with
      | zero => intro _; rfl
      | succ j ih =>
        intro hj
        show sprK d (sprM d (rnds d n) j) j d.1.1 i = _
        rw [hk _ j (by omega) _ (Nat.le_refl _), ih (by omega)]
    show sprM d (rnds d n) d.1.2.1 i = false
    rw [hm _ (Nat.le_refl _)]
    exact rnds_hi hO hi n
/-- beyond its length there is nothing in getsAway -/
def GA (m : jm_M) (ad : Nat → Nat) : Prop := ∀ i, 9 ≤ i → m.2.2.1 (ad 14) i = 0
section LN3
variable {l : Launch} {D : va_G} {ca : Nat → ClassId}
theorem c_Ln_firstStuck {m : jm_M} {ad : Nat → Nat} {d : LD} (S : SST m ad) (L : LnV m ad d) (hO : LOK d) (hG : GA m ad) : jm_C l D ca n_Ln_firstStuck [.ref (ad 1)] m 0 0 (fun v m' => m' = uA m (ad 14) (gaR (rnds d 9)) ∧ ∃ r, v = some (.int r) ∧ fsOK d r) := by
  refine jm_C_of (cd := cd_Ln_firstStuck) (ini := false) (by decide +kernel) ok_Ln_firstStuck (fun h => by cases h) (Nat.le_of_ble_eq_true rfl) ?_
  intro X hX
  have o1 : jm_ok m (ad 1) 2 := S.ok 1 (Or.inl (by decide))
  have o14 : jm_ok m (ad 14) 52 := S.ok 14 (Or.inl (by decide))
  have r14 : m.2.2.2.2 (ad 1) 12 = some (ad 14) := S.2.2.1 (1, 12, 14) (by decide)
  have l14 : (m.2.1 (ad 14)).2 = 9 := S.len 14 (Or.inl (by decide))
  have hK := hO.1
  have hM := hO.2.1
  have Sg : ∀ g, SST (uA m (ad 14) g) ad := fun g => S
  have Lg := L.ga S (gaR (rnds d 9))
  -- the last loop
  have last : ∀ (e j : Nat), j + e = d.1.2.1 → (∀ i, i < j → ¬ stk d i) → X 41 [(0, .ref (ad 1)), (1, .int (nI j))] [] (uA m (ad 14) (gaR (rnds d 9))) 0 0 := by
    intro e
    induction e with
    | zero =>
      intro j hj hn
      refine jm_run hX [] 20 ?_
      refine And.intro o1 (And.intro (fun _ => ?_) (fun g => ?_))
      · exact ⟨Nat.le_refl _, Nat.le_refl _, trivial, rfl, -1, rfl, Or.inr ⟨rfl, fun i hi => hn i (by omega)⟩⟩
      · have g : ¬ (uA m (ad 14) (gaR (rnds d 9))).2.2.1 (ad 1) 1 ≤ nI j := g
        rw [Lg.2.1] at g
        exact absurd (nI_le (by omega) (by omega)) g
    | succ e ihe =>
      intro j hj hn
      have hj3 : j < d.1.2.1 := by omega
      have inner : ∀ (f k : Nat), k + f = d.1.1 → (∀ i, i < k → rnds d 9 (j * d.1.1 + i) = true) → X 51 [(0, .ref (ad 1)), (1, .int (nI j)), (2, .int (nI k))] [] (uA m (ad 14) (gaR (rnds d 9))) 0 0 := by
        intro f
        induction f with
        | zero =>
          intro k hk ht
          refine jm_run hX [(41, [0, 1])] 20 ?_
          refine And.intro o1 (And.intro (fun _ => ?_) (fun g => ?_))
          · have kk := ihe (j + 1) (by omega) (fun i hi => by
              rcases Nat.lt_or_ge i j with q | q
              · exact hn i q
              · rw [show i = j by omega]
                rintro ⟨k', hk', hf⟩
                rw [ht k' (by omega)] at hf
                exact absurd hf (by decide))
            rw [← nI_1] at kk
            exact kk
          · have g : ¬ (uA m (ad 14) (gaR (rnds d 9))).2.2.1 (ad 1) 0 ≤ nI k := g
            rw [Lg.1] at g
            exact absurd (nI_le (by omega) (by omega)) g
        | succ f ihf =>
          intro k hk ht
          have hk3 : k < d.1.1 := by omega
          have hrow := row_lt hK.2 hM hj3 hk3
          have ev : (uA m (ad 14) (gaR (rnds d 9))).2.2.1 (ad 14) (nI (j * d.1.1 + k)).toNatClampNeg = bI (rnds d 9 (j * d.1.1 + k)) := by
            rw [nI_c (by omega)]
            show va_up m.2.2.1 (ad 14) _ (ad 14) _ = _
            rw [va_up_self]
          refine jm_run hX [(51, [0, 1, 2])] 40 ?_
          refine And.intro o1 (And.intro (fun g => ?_) (fun _ => ?_))
          · have g : (uA m (ad 14) (gaR (rnds d 9))).2.2.1 (ad 1) 0 ≤ nI k := g
            rw [Lg.1] at g
            exact absurd g (nI_ge hk3 (by omega))
          refine And.intro o1 ⟨some (ad 14), r14, ?_⟩
          refine And.intro o1 (And.intro (Nat.le_of_ble_eq_true rfl) (And.intro (Nat.le_of_ble_eq_true rfl) ⟨0, 0, _, Nat.le_refl _, Nat.le_refl _, c_Ln_row (m := uA m (ad 14) (gaR (rnds d 9))) (Sg _) Lg, fun v m' hq => ?_⟩))
          obtain ⟨rfl, rfl⟩ := hq
          refine And.intro o14 (And.intro (vin_of l14 hrow (by decide)) ?_)
          refine And.intro (fun g => ?_) (fun g => ?_)
          · have g : (uA m (ad 14) (gaR (rnds d 9))).2.2.1 (ad 14) (nI (j * d.1.1 + k)).toNatClampNeg = 0 := g
            rw [ev] at g
            refine ⟨Nat.le_refl _, Nat.le_refl _, trivial, rfl, nI j, rfl, Or.inl ⟨j, hj3, rfl, ⟨k, hk3, ?_⟩, hn⟩⟩
            cases hst : rnds d 9 (j * d.1.1 + k) with
            | true => rw [hst] at g; exact absurd g (by decide)
            | false => rfl
          · have g : ¬ (uA m (ad 14) (gaR (rnds d 9))).2.2.1 (ad 14) (nI (j * d.1.1 + k)).toNatClampNeg = 0 := g
            rw [ev] at g
            have kk := ihf (k + 1) (by omega) (fun i hi => by
              rcases Nat.lt_or_ge i k with q | q
              · exact ht i q
              · rw [show i = k by omega]
                cases hst : rnds d 9 (j * d.1.1 + k) with
                | true => rfl
                | false => rw [hst] at g; exact absurd rfl g)
            rw [← nI_1] at kk
            exact kk
      refine jm_run hX [(51, [0, 1, 2])] 20 ?_
      refine And.intro o1 (And.intro (fun g => ?_) (fun _ => ?_))
      · have g : (uA m (ad 14) (gaR (rnds d 9))).2.2.1 (ad 1) 1 ≤ nI j := g
        rw [Lg.2.1] at g
        exact absurd g (nI_ge hj3 (by omega))
      exact inner d.1.1 0 (by omega) (fun i hi => absurd hi (by omega))
  -- the rounds
  have rounds : ∀ (e n : Nat), n + e = 9 → X 23 [(0, .ref (ad 1)), (1, .int (nI n))] [] (uA m (ad 14) (gaR (rnds d n))) 0 0 := by
    intro e
    induction e with
    | zero =>
      intro n hn
      refine jm_run hX [(41, [0, 1])] 20 ?_
      refine And.intro (fun _ => ?_) (fun g => ?_)
      · rw [show n = 9 by omega]
        exact last d.1.2.1 0 (by omega) (fun i hi => absurd hi (by omega))
      · exact absurd (nI_le (show 9 ≤ n by omega) (by omega)) g
    | succ e ih =>
      intro n hn
      refine jm_run hX [(23, [0, 1])] 20 ?_
      refine And.intro (fun g => absurd g (nI_ge (show n < 9 by omega) (by decide))) (fun _ => ?_)
      refine And.intro o1 (And.intro (Nat.le_of_ble_eq_true rfl) (And.intro (Nat.le_of_ble_eq_true rfl) ⟨0, 0, _, Nat.le_refl _, Nat.le_refl _, c_Ln_spread (st := rnds d n) S L hO, fun v m' hq => ?_⟩))
      obtain ⟨rfl, rfl⟩ := hq
      have kk := ih (n + 1) (by omega)
      rw [← nI_1] at kk
      exact kk
  -- the first loop
  have first : ∀ (e i : Nat) (g : Nat → Int32), i + e = 9 → (∀ r, r < i → g r = 0) → (∀ r, 9 ≤ r → g r = 0) → X 2 [(0, .ref (ad 1)), (1, .int (nI i))] [] (uA m (ad 14) g) 0 0 := by
    intro e
    induction e with
    | zero =>
      intro i g hi h1 h2
      have eg : g = gaR (rnds d 0) := by
        funext r
        show g r = 0
        rcases Nat.lt_or_ge r 9 with q | q
        · exact h1 r (by omega)
        · exact h2 r q
      rw [eg]
      refine jm_run hX [(23, [0, 1])] 20 ?_
      refine And.intro (fun _ => rounds 9 0 (by omega)) (fun g2 => ?_)
      exact absurd (nI_le (show 9 ≤ i by omega) (by omega)) g2
    | succ e ih =>
      intro i g hi h1 h2
      have kk := ih (i + 1) (va_up g i 0) (by omega) (fun r hr => by
        by_cases q : r = i
        · subst q; exact va_up_self _ _ _
        · rw [va_up_ne _ _ q]; exact h1 r (by omega)) (fun r hr => by rw [va_up_ne _ _ (by omega)]; exact h2 r hr)
      rw [← uI_uA, ← nI_1] at kk
      refine jm_run hX [(2, [0, 1])] 20 ?_
      refine And.intro (fun g2 => absurd g2 (nI_ge (show i < 9 by omega) (by decide))) (fun _ => ?_)
      refine And.intro o1 ⟨some (ad 14), r14, ?_⟩
      refine And.intro o14 (And.intro (vin_of l14 (by omega) (by decide)) (And.intro (Or.inl rfl) ?_))
      have k2 : X 2 [(0, .ref (ad 1)), (1, .int (nI i + 1))] [] (uI (uA m (ad 14) g) (ad 14) (nI i).toNatClampNeg 0) 0 0 := by
        rw [nI_c (by omega)]; exact kk
      exact k2
  have k0 := first 9 0 (m.2.2.1 (ad 14)) (by omega) (fun r hr => absurd hr (by omega)) hG
  rw [uA_id] at k0
  refine jm_run hX [(2, [0, 1])] 10 ?_
  exact k0
end LN3
