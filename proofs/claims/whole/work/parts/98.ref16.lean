section RB15
variable {l : Launch} {D : va_G} {ca : Nat → ClassId}
def stkR (R : RD) (x : Int32) : Prop := (∃ j, j < R.M ∧ rstk R j ∧ (∀ i, i < j → ¬ rstk R i) ∧ x = nI j) ∨ ((∀ j, j < R.M → ¬ rstk R j) ∧ x = -1)
theorem c_Mo_stuck {m : jm_M} {rd : Nat → Nat} {f : Nat} {R : RD} (S : MST m rd) (hV : MV m rd f R) (hL : LAY m rd R) (hf : f < 2) (hR : ROK R) : jm_C l D ca n_Mo_stuck [.ref (rd 0), .int (nI f)] m 0 0 (fun v m' => m' = m ∧ ∃ x, v = some (.int x) ∧ stkR R x) := by
  refine jm_C_of (cd := cd_Mo_stuck) (ini := false) (by decide +kernel) ok_Mo_stuck (fun h => by cases h) (Nat.le_of_ble_eq_true rfl) ?_
  intro X hX
  have hM := hR.2.1
  have hK := hR.1
  have o0 : jm_ok m (rd 0) 6 := S.ok (Or.inl (by decide))
  have k1 : mkin 1 := Or.inl (by decide)
  have hin1 : vp_in (nI f) (m.2.1 (rd 1)).2 := vin_of (S.len k1) (show f < 2 by omega) (by decide)
  have eM : m.2.2.1 (rd 1) (nI f).toNatClampNeg = nI R.M := by rw [nI_c (by omega)]; exact hV.2.1
  have eq3 : ∀ j k, (3 : Int32) * nI j + nI k = nI (3 * j + k) := fun j k => by
    have : (3 : Int32) * nI j = nI (3 * j) := pk_mul 3 j
    rw [this, nI_add]
  -- the second half
  have second : ∀ F, FB F (rrn R 9) → X 83 [(0, .ref (rd 0)), (1, .int (nI f)), (2, .int (nI F))] [] m 0 0 := by
    intro F hF
    have outer : ∀ (e j : Nat), j + e = R.M → (∀ i, i < j → ¬ rstk R i) → X 85 [(0, .ref (rd 0)), (1, .int (nI f)), (2, .int (nI F)), (3, .int (nI j))] [] m 0 0 := by
      intro e
      induction e with
      | zero =>
        intro j hj hn
        refine jm_run hX [] 30 ?_
        refine And.intro o0 ⟨some (rd 1), S.2.2 1 k1 (by decide), And.intro (S.ok k1) (And.intro hin1 ?_)⟩
        refine And.intro (fun _ => ?_) (fun g => absurd (show m.2.2.1 (rd 1) (nI f).toNatClampNeg ≤ nI j from by rw [eM]; exact nI_le (by omega) (by omega)) g)
        exact ⟨Nat.le_refl _, Nat.le_refl _, trivial, rfl, _, rfl, Or.inr ⟨fun i hi => hn i (by omega), rfl⟩⟩
      | succ e ih =>
        intro j hj hn
        have inner : ∀ (e k : Nat), k + e = R.K → (∀ i, i < k → rrn R 9 (3 * j + i) = true) → X 98 [(0, .ref (rd 0)), (1, .int (nI f)), (2, .int (nI F)), (3, .int (nI j)), (4, .int (nI k))] [] m 0 0 := by
          intro e
          induction e with
          | zero =>
            intro k hk hy
            refine jm_run hX [(85, [0, 1, 2, 3])] 30 ?_
            refine And.intro o0 ?_
            refine And.intro (fun _ => ?_) (fun g => absurd (show m.2.2.1 (rd 0) 0 ≤ nI k from by rw [hV.1]; exact nI_le (by omega) (by omega)) g)
            have kk := ih (j + 1) (by omega) (fun i hi => by
              by_cases w : i = j
              · subst w
                rintro ⟨k2, hk2, hk3⟩
                rw [hy k2 (by omega)] at hk3
                cases hk3
              · exact hn i (by omega))
            rw [← nI_1] at kk
            exact kk
          | succ e ih2 =>
            intro k hk hy
            have eb : (nI F >>> (((3 : Int32) * nI j + nI k) &&& 31)) &&& 1 = bI (rrn R 9 (3 * j + k)) := by
              rw [eq3, fb_get F hF.1 _ (by omega), hF.2 _ (by omega)]
            refine jm_run hX [(98, [0, 1, 2, 3, 4])] 30 ?_
            refine And.intro o0 ?_
            refine And.intro (fun g => absurd (show m.2.2.1 (rd 0) 0 ≤ nI k from g) (by rw [hV.1]; exact nI_ge (by omega) (by omega))) (fun _ => ?_)
            refine And.intro (fun g => ?_) (fun g => ?_)
            · have g : (nI F >>> (((3 : Int32) * nI j + nI k) &&& 31)) &&& 1 = 0 := g
              rw [eb, bI_eq0] at g
              exact ⟨Nat.le_refl _, Nat.le_refl _, trivial, rfl, _, rfl, Or.inl ⟨j, by omega, ⟨k, by omega, g⟩, hn, rfl⟩⟩
            · have g : ¬ (nI F >>> (((3 : Int32) * nI j + nI k) &&& 31)) &&& 1 = 0 := g
              rw [eb, bI_eq0, Bool.not_eq_false] at g
              have kk := ih2 (k + 1) (by omega) (fun i hi => by
                by_cases w : i = k
                · rw [w]; exact g
                · exact hy i (by omega))
              rw [← nI_1] at kk
              exact kk
        refine jm_run hX [(98, [0, 1, 2, 3, 4])] 30 ?_
        refine And.intro o0 ⟨some (rd 1), S.2.2 1 k1 (by decide), And.intro (S.ok k1) (And.intro hin1 ?_)⟩
        refine And.intro (fun g => absurd (show m.2.2.1 (rd 1) (nI f).toNatClampNeg ≤ nI j from g) (by rw [eM]; exact nI_ge (by omega) (by omega))) (fun _ => ?_)
        exact inner R.K 0 (by omega) (fun i hi => absurd hi (by omega))
    refine jm_run hX [(85, [0, 1, 2, 3])] 4 ?_
    exact outer R.M 0 (by omega) (fun i hi => absurd hi (by omega))
  -- the first half
  have first : ∀ (e n : Nat), n + e = 9 → ∀ F, FB F (rrn R n) → X 4 [(0, .ref (rd 0)), (1, .int (nI f)), (2, .int (nI F)), (3, .int (nI n))] [] m 0 0 := by
    intro e
    induction e with
    | zero =>
      intro n hn F hF
      have : n = 9 := by omega
      subst this
      refine jm_run hX [(83, [0, 1, 2])] 10 ?_
      refine And.intro (fun _ => second F hF) (fun g => absurd (nI_le (Nat.le_refl 9) (by decide)) g)
    | succ e ih =>
      intro n hn F hF
      have outer : ∀ (e j : Nat), j + e = R.M → ∀ F, FB F (rspM R (rrn R n) j) → X 13 [(0, .ref (rd 0)), (1, .int (nI f)), (2, .int (nI F)), (3, .int (nI n)), (4, .int (nI j))] [] m 0 0 := by
        intro e
        induction e with
        | zero =>
          intro j hj F hF
          have : j = R.M := by omega
          subst this
          have kk := ih (n + 1) (by omega) F hF
          rw [← nI_1] at kk
          refine jm_run hX [(4, [0, 1, 2, 3])] 30 ?_
          refine And.intro o0 ⟨some (rd 1), S.2.2 1 k1 (by decide), And.intro (S.ok k1) (And.intro hin1 ?_)⟩
          refine And.intro (fun _ => kk) (fun g => absurd (show m.2.2.1 (rd 1) (nI f).toNatClampNeg ≤ nI R.M from by rw [eM]; exact nI_le (by omega) (by omega)) g)
        | succ e ih1 =>
          intro j hj F hF
          have inner : ∀ (e k : Nat), k + e = R.K → ∀ F, FB F (rspK R (rspM R (rrn R n) j) j k) → X 27 [(0, .ref (rd 0)), (1, .int (nI f)), (2, .int (nI F)), (3, .int (nI n)), (4, .int (nI j)), (5, .int (nI k))] [] m 0 0 := by
            intro e
            induction e with
            | zero =>
              intro k hk F hF
              have : k = R.K := by omega
              subst this
              have kk := ih1 (j + 1) (by omega) F hF
              rw [← nI_1] at kk
              refine jm_run hX [(13, [0, 1, 2, 3, 4])] 30 ?_
              refine And.intro o0 ?_
              refine And.intro (fun _ => kk) (fun g => absurd (show m.2.2.1 (rd 0) 0 ≤ nI R.K from by rw [hV.1]; exact nI_le (by omega) (by omega)) g)
            | succ e ih2 =>
              intro k hk F hF
              have kg := c_Mo_goes (l := l) (D := D) (ca := ca) S hV hL hf hR (show j < R.M by omega) (show k < R.K by omega) hF
              have k63 : ∀ G, FB G (rspK R (rspM R (rrn R n) j) j (k + 1)) → ∀ x, nI F ||| x = nI G → X 63 [(0, .ref (rd 0)), (1, .int (nI f)), (2, .int (nI F)), (3, .int (nI n)), (4, .int (nI j)), (5, .int (nI k))] [.int x, .int (nI F)] m 0 0 := fun G hG x hx => by
                have kk := ih2 (k + 1) (by omega) G hG
                rw [← nI_1, ← hx] at kk
                refine jm_run hX [(27, [0, 1, 2, 3, 4, 5])] 6 ?_
                exact kk
              have hsp : rspK R (rspM R (rrn R n) j) j (k + 1) = if rgo R (rspK R (rspM R (rrn R n) j) j k) j k (R.O j) = true then va_up (rspK R (rspM R (rrn R n) j) j k) (3 * j + k) true else rspK R (rspM R (rrn R n) j) j k := rfl
              refine jm_run hX [(63, [0, 1, 2, 3, 4, 5])] 30 ?_
              refine And.intro o0 ?_
              refine And.intro (fun g => absurd (show m.2.2.1 (rd 0) 0 ≤ nI k from g) (by rw [hV.1]; exact nI_ge (by omega) (by omega))) (fun _ => ?_)
              refine And.intro o0 (And.intro (Nat.le_of_ble_eq_true rfl) (And.intro (Nat.le_of_ble_eq_true rfl) ⟨0, 0, _, Nat.le_refl _, Nat.le_refl _, kg, fun v m' hq => ?_⟩))
              obtain ⟨ee, rfl⟩ := hq
              have ee := ee.symm
              subst ee
              refine And.intro (fun g => ?_) (fun g => ?_)
              · have g : bI (rgo R (rspK R (rspM R (rrn R n) j) j k) j k (R.O j)) = 0 := g
                rw [bI_eq0] at g
                rw [g, if_neg (by decide)] at hsp
                exact k63 F (by rw [hsp]; exact hF) (nI 0) (fb_or0 F hF.1)
              · have g : ¬ bI (rgo R (rspK R (rspM R (rrn R n) j) j k) j k (R.O j)) = 0 := g
                rw [bI_eq0, Bool.not_eq_false] at g
                rw [g, if_pos rfl] at hsp
                have kk := k63 (F ||| 2 ^ (3 * j + k)) (by rw [hsp]; exact hF.set (by omega)) (nI 1 <<< (nI (3 * j + k) &&& 31)) (fb_or F hF.1 _ (by omega)).1
                rw [← eq3] at kk
                exact kk
          refine jm_run hX [(27, [0, 1, 2, 3, 4, 5])] 30 ?_
          refine And.intro o0 ⟨some (rd 1), S.2.2 1 k1 (by decide), And.intro (S.ok k1) (And.intro hin1 ?_)⟩
          refine And.intro (fun g => absurd (show m.2.2.1 (rd 1) (nI f).toNatClampNeg ≤ nI j from g) (by rw [eM]; exact nI_ge (by omega) (by omega))) (fun _ => ?_)
          exact inner R.K 0 (by omega) F hF
      refine jm_run hX [(13, [0, 1, 2, 3, 4])] 10 ?_
      refine And.intro (fun g => absurd (show nI 9 ≤ nI n from g) (nI_ge (by omega) (by omega))) (fun _ => ?_)
      exact outer R.M 0 (by omega) F hF
  refine jm_run hX [(4, [0, 1, 2, 3])] 5 ?_
  exact first 9 0 (by omega) 0 ⟨by decide, fun i hi => (Nat.zero_testBit i).symm⟩
end RB15
