section RB13
variable {l : Launch} {D : va_G} {ca : Nat → ClassId}
abbrev inN (R : RD) (q : Nat) : Prop := q / 3 < R.M ∧ q % 3 < R.K
def rWv (R : RD) (q : Nat) : Nat := if inN R q then rwh R (q / 3) (q % 3) else 1
def rTv (R : RD) (t : Nat) : Nat := if inN R (t % 9) then rtb R (t % 9 / 3) (t % 9 % 3) (t / 27) (t / 9 % 3) else 0
def rYv (R : RD) (t : Nat) : Nat := if inN R (t % 9) then (if t / 27 < R.O (t % 9 / 3) then wy R (t % 9 / 3) (t % 9 % 3) (t / 27) (t / 9 % 3) else 0) else 0
def LAY (m : jm_M) (rd : Nat → Nat) (R : RD) : Prop := lrow (m.2.2.2.1 (rd 17)) (rWv R) 9 ∧ lrow (m.2.2.2.1 (rd 18)) (rTv R) 81 ∧ lrow (m.2.2.2.1 (rd 19)) (rYv R) 81
theorem btz_rB (R : RD) {i q : Nat} (hi : i < 9) (hq : q < 9) : btz (rWv R) (rTv R) i q = rB R i q := by
  unfold btz rB rWv rTv
  have e1 : (9 * i + q) % 9 = q := by omega
  have e2 : (9 * i + q) / 27 = i / 3 := by omega
  have e3 : (9 * i + q) / 9 % 3 = i % 3 := by omega
  rw [e1, e2, e3]
  by_cases h : inN R q
  · rw [if_pos h, if_pos h, if_pos (show q / 3 < R.M ∧ q % 3 < R.K from h)]
  · rw [if_neg h, if_neg h, if_neg (show ¬ (q / 3 < R.M ∧ q % 3 < R.K) from h)]
    by_cases w : i = q
    · rw [if_pos w, if_pos w]; rfl
    · rw [if_neg w, if_neg w]; rfl
theorem LAY.fm {m m' : jm_M} {rd : Nat → Nat} {p : Nat → Prop} {R : RD} (S : MST m rd) (h : LAY m rd R) (hF : FM rd p m m') (hp : ∀ k, 17 ≤ k → k ≤ 19 → ¬ p k) : LAY m' rd R := by
  unfold LAY
  rw [(hF.at S (Or.inr (Or.inl (by decide))) (hp 17 (by decide) (by decide))).2, (hF.at S (Or.inr (Or.inl (by decide))) (hp 18 (by decide) (by decide))).2, (hF.at S (Or.inr (Or.inl (by decide))) (hp 19 (by decide) (by decide))).2]
  exact h
theorem c_Mo_layOut {m0 : jm_M} {rd : Nat → Nat} {f : Nat} {R : RD} (S0 : MST m0 rd) (hV0 : MV m0 rd f R) (hf : f < 2) (hR : ROK R) : jm_C l D ca n_Mo_layOut [.ref (rd 0), .int (nI f)] m0 0 0 (fun v m' => v = none ∧ FM rd pL m0 m' ∧ LAY m' rd R) := by
  refine jm_C_of (cd := cd_Mo_layOut) (ini := false) (by decide +kernel) ok_Mo_layOut (fun h => by cases h) (Nat.le_of_ble_eq_true rfl) ?_
  intro X hX
  have hM := hR.2.1
  have hK := hR.1
  have o0 : ∀ {m : jm_M}, MST m rd → jm_ok m (rd 0) 6 := fun S => S.ok (Or.inl (by decide))
  have k1 : mkin 1 := Or.inl (by decide)
  have k19 : mkin 19 := Or.inr (Or.inl (by decide))
  have k18 : mkin 18 := Or.inr (Or.inl (by decide))
  have k17 : mkin 17 := Or.inr (Or.inl (by decide))
  have loop2 : ∀ (e q : Nat), q + e = 9 → ∀ m, FM rd pL m0 m → (∀ i, i < q → m.2.2.2.1 (rd 17) i = lN (rWv R i)) → (∀ t, t < 81 → m.2.2.2.1 (rd 18) t = lN (if t % 9 < q then rTv R t else 0) ∧ m.2.2.2.1 (rd 19) t = lN (if t % 9 < q then rYv R t else 0)) → X 30 [(0, .ref (rd 0)), (1, .int (nI f)), (2, .int (nI q))] [] m 0 0 := by
    intro e
    induction e with
    | zero =>
      intro q hq m hF h1 h2
      have hq9 : q = 9 := by omega
      subst hq9
      refine jm_run hX [] 5 ?_
      refine And.intro (fun _ => ?_) (fun g => absurd (nI_le (Nat.le_refl 9) (by decide)) g)
      refine ⟨Nat.le_refl _, Nat.le_refl _, trivial, rfl, hF, h1, fun t ht => ?_, fun t ht => ?_⟩
      · rw [(h2 t ht).1, if_pos (by omega)]
      · rw [(h2 t ht).2, if_pos (by omega)]
    | succ e ih =>
      intro q hq m hF h1 h2
      have S := hF.S S0
      have hV := hV0.fm S0 hF (fun k w => by omega)
      have ed : nI q / nI 3 = nI (q / 3) := pk_div (a := q) (d := 3) (by omega) (by decide) (by decide)
      have em : nI q - nI q / nI 3 * nI 3 = nI (q % 3) := pk_rem (a := q) (d := 3) (by omega) (by decide) (by decide)
      generalize hm1 : uJ m (rd 17) q (lN 1) = m1
      have hF1 : FM rd pL m m1 := by rw [← hm1]; exact FM.uJ k17 (by decide)
      have S1 := hF1.S S
      have hV1 := hV.fm S hF1 (fun k w => by omega)
      have g17 : m1.2.2.2.1 (rd 17) = va_up (m.2.2.2.1 (rd 17)) q (lN 1) := by rw [← hm1]; exact va_up_self ..
      have g18 : m1.2.2.2.1 (rd 18) = m.2.2.2.1 (rd 18) := by rw [← hm1]; exact va_up_ne _ _ (S.ne k18 k17 (by decide))
      have g19 : m1.2.2.2.1 (rd 19) = m.2.2.2.1 (rd 19) := by rw [← hm1]; exact va_up_ne _ _ (S.ne k19 k17 (by decide))
      have k79 : ∀ m', FM rd pL m1 m' → (∀ i, i < q + 1 → m'.2.2.2.1 (rd 17) i = lN (rWv R i)) → (∀ t, t < 81 → m'.2.2.2.1 (rd 18) t = lN (if t % 9 < q + 1 then rTv R t else 0) ∧ m'.2.2.2.1 (rd 19) t = lN (if t % 9 < q + 1 then rYv R t else 0)) → X 79 [(0, .ref (rd 0)), (1, .int (nI f)), (2, .int (nI q))] [] m' 0 0 := fun m' hF' a1 a2 => by
        have kk := ih (q + 1) (by omega) m' ((hF.tr hF1).tr hF') a1 a2
        rw [← nI_1] at kk
        refine jm_run hX [(30, [0, 1, 2])] 5 ?_
        exact kk
      have skip : ¬ inN R q → X 79 [(0, .ref (rd 0)), (1, .int (nI f)), (2, .int (nI q))] [] m1 0 0 := fun hn => by
        refine k79 m1 FM.rf (fun i hi => ?_) (fun t ht => ?_)
        · rw [g17]
          by_cases w : i = q
          · subst w; rw [va_up_self]; unfold rWv; rw [if_neg hn]
          · rw [va_up_ne _ _ w]; exact h1 i (by omega)
        · rw [g18, g19, (h2 t ht).1, (h2 t ht).2]
          by_cases w : t % 9 = q
          · have a : rTv R t = 0 := by unfold rTv; rw [w, if_neg hn]
            have b : rYv R t = 0 := by unfold rYv; rw [w, if_neg hn]
            rw [a, b]; constructor <;> (split <;> split <;> rfl)
          · by_cases w2 : t % 9 < q
            · rw [if_pos w2, if_pos w2, if_pos (by omega), if_pos (by omega)]; exact ⟨rfl, rfl⟩
            · rw [if_neg w2, if_neg w2, if_neg (by omega), if_neg (by omega)]; exact ⟨rfl, rfl⟩
      refine jm_run hX [(79, [0, 1, 2])] 40 ?_
      refine And.intro (fun g => absurd (show nI 9 ≤ nI q from g) (nI_ge (by omega) (by omega))) (fun _ => ?_)
      refine And.intro (o0 S) ⟨some (rd 17), S.2.2 17 k17 (by decide), And.intro (S.ok k17) (And.intro (vin_of (S.len k17) (show q < 9 by omega) (by decide)) ?_)⟩
      refine And.intro (show ¬ (3 : Int32) = 0 by decide) (And.intro (show ¬ (3 : Int32) = 0 by decide) ?_)
      have hm1' : uJ m (rd 17) (nI q).toNatClampNeg (lN 1) = m1 := by rw [nI_c (by omega)]; exact hm1
      have eM : m1.2.2.1 (rd 1) (nI f).toNatClampNeg = nI R.M := by rw [nI_c (by omega)]; exact hV1.2.1
      refine And.intro (show jm_ok (uJ m (rd 17) (nI q).toNatClampNeg (lN 1)) (rd 0) 6 by rw [hm1']; exact o0 S1) ⟨some (rd 1), show (uJ m (rd 17) (nI q).toNatClampNeg (lN 1)).2.2.2.2 (rd 0) 1 = _ by rw [hm1']; exact S1.2.2 1 k1 (by decide), And.intro (show jm_ok (uJ m (rd 17) (nI q).toNatClampNeg (lN 1)) (rd 1) 50 by rw [hm1']; exact S1.ok k1) (And.intro (show vp_in (nI f) ((uJ m (rd 17) (nI q).toNatClampNeg (lN 1)).2.1 (rd 1)).2 by rw [hm1']; exact vin_of (S1.len k1) (show f < 2 by omega) (by decide)) ?_)⟩
      refine And.intro (fun g => ?_) (fun g => ?_)
      · have g : (uJ m (rd 17) (nI q).toNatClampNeg (lN 1)).2.2.1 (rd 1) (nI f).toNatClampNeg ≤ nI q / nI 3 := g
        rw [hm1', ed, eM, nI_leI (by omega) (by omega)] at g
        have kk := skip (fun z => absurd z.1 (by omega))
        rw [← hm1'] at kk
        exact kk
      · have g : ¬ (uJ m (rd 17) (nI q).toNatClampNeg (lN 1)).2.2.1 (rd 1) (nI f).toNatClampNeg ≤ nI q / nI 3 := g
        rw [hm1', ed, eM, nI_leI (by omega) (by omega)] at g
        refine And.intro (show jm_ok (uJ m (rd 17) (nI q).toNatClampNeg (lN 1)) (rd 0) 6 by rw [hm1']; exact o0 S1) ?_
        refine And.intro (fun g2 => ?_) (fun g2 => ?_)
        · have g2 : (uJ m (rd 17) (nI q).toNatClampNeg (lN 1)).2.2.1 (rd 0) 0 ≤ nI q - nI q / nI 3 * nI 3 := g2
          rw [hm1', em, hV1.1, nI_leI (by omega) (by omega)] at g2
          have kk := skip (fun z => absurd z.2 (by omega))
          rw [← hm1'] at kk
          exact kk
        · have g2 : ¬ (uJ m (rd 17) (nI q).toNatClampNeg (lN 1)).2.2.1 (rd 0) 0 ≤ nI q - nI q / nI 3 * nI 3 := g2
          rw [hm1', em, hV1.1, nI_leI (by omega) (by omega)] at g2
          have hin : inN R q := ⟨by omega, by omega⟩
          have eq3 : 3 * (q / 3) + q % 3 = q := by omega
          have kl := c_Mo_layNode (l := l) (D := D) (ca := ca) S1 hV1 hf hin.1 hin.2 hR (fun t ht w => by rw [g19, (h2 t ht).2, if_neg (by omega)]) (fun t ht w => by rw [g18, (h2 t ht).1, if_neg (by omega)])
          refine And.intro (show jm_ok (uJ m (rd 17) (nI q).toNatClampNeg (lN 1)) (rd 0) 6 by rw [hm1']; exact o0 S1) ?_
          rw [← ed, ← em, ← hm1'] at kl
          refine And.intro (Nat.le_of_ble_eq_true rfl) (And.intro (Nat.le_of_ble_eq_true rfl) ⟨0, 0, _, Nat.le_refl _, Nat.le_refl _, kl, fun v m' hqq => ?_⟩)
          rw [hm1'] at hqq
          obtain ⟨rfl, b1, b2, b3, b4⟩ := hqq
          rw [eq3] at b2 b3 b4
          refine k79 m' b1 (fun i hi => ?_) (fun t ht => ?_)
          · rw [b2, g17]
            by_cases w : i = q
            · subst w; rw [va_up_self]; unfold rWv; rw [if_pos hin]
            · rw [va_up_ne _ _ w, va_up_ne _ _ w]; exact h1 i (by omega)
          · rw [b3 t ht, b4 t ht, g18, g19, (h2 t ht).1, (h2 t ht).2]
            by_cases w : t % 9 = q
            · have a : rTv R t = rtb R (q / 3) (q % 3) (t / 27) (t / 9 % 3) := by unfold rTv; rw [w, if_pos hin]
              have b : rYv R t = wcg R (q / 3) (q % 3) (R.O (q / 3)) (fun _ => 0) t := by
                unfold rYv wcg; rw [w, if_pos hin]
                by_cases w2 : t / 27 < R.O (q / 3)
                · rw [if_pos w2, if_pos w2]
                · rw [if_neg w2, if_neg w2]; split <;> rfl
              rw [if_pos w, if_pos w, if_pos (by omega), if_pos (by omega), a, b]; exact ⟨rfl, rfl⟩
            · rw [if_neg w, if_neg w]
              by_cases w2 : t % 9 < q
              · rw [if_pos w2, if_pos w2, if_pos (by omega), if_pos (by omega)]; exact ⟨rfl, rfl⟩
              · rw [if_neg w2, if_neg w2, if_neg (by omega), if_neg (by omega)]; exact ⟨rfl, rfl⟩
  have loop1 : ∀ (e k : Nat), k + e = 81 → ∀ m, FM rd pL m0 m → (∀ t, t < k → m.2.2.2.1 (rd 18) t = lN 0 ∧ m.2.2.2.1 (rd 19) t = lN 0) → X 2 [(0, .ref (rd 0)), (1, .int (nI f)), (2, .int (nI k))] [] m 0 0 := by
    intro e
    induction e with
    | zero =>
      intro k hk m hF h
      have hk9 : k = 81 := by omega
      subst hk9
      refine jm_run hX [(30, [0, 1, 2])] 6 ?_
      refine And.intro (fun _ => ?_) (fun g => absurd (nI_le (Nat.le_refl 81) (by decide)) g)
      exact loop2 9 0 (by omega) m hF (fun i hi => absurd hi (by omega)) (fun t ht => by rw [if_neg (by omega), if_neg (by omega)]; exact h t ht)
    | succ e ih =>
      intro k hk m hF h
      have S := hF.S S0
      refine jm_run hX [(2, [0, 1, 2])] 40 ?_
      refine And.intro (fun g => absurd (show nI 81 ≤ nI k from g) (nI_ge (by omega) (by omega))) (fun _ => ?_)
      refine And.intro (o0 S) ⟨some (rd 18), S.2.2 18 k18 (by decide), And.intro (S.ok k18) (And.intro (vin_of (S.len k18) (show k < 81 by omega) (by decide)) (And.intro (o0 S) ⟨some (rd 19), S.2.2 19 k19 (by decide), And.intro (S.ok k19) (And.intro (vin_of (S.len k19) (show k < 81 by omega) (by decide)) ?_)⟩))⟩
      have kk := ih (k + 1) (by omega) (uJ (uJ m (rd 18) (nI k).toNatClampNeg (lN 0)) (rd 19) (nI k).toNatClampNeg (lN 0)) ((hF.tr (FM.uJ k18 (by decide))).tr (FM.uJ k19 (by decide))) (fun t ht => by
        show va_up (va_up m.2.2.2.1 (rd 18) _) (rd 19) _ (rd 18) t = _ ∧ va_up (va_up m.2.2.2.1 (rd 18) _) (rd 19) (va_up (va_up m.2.2.2.1 (rd 18) _ (rd 19)) _ _) (rd 19) t = _
        rw [va_up_ne _ _ (S.ne k18 k19 (by decide)), va_up_self, va_up_self, va_up_ne _ _ (S.ne k19 k18 (by decide)), nI_c (by omega)]
        by_cases w : t = k
        · subst w; rw [va_up_self, va_up_self]; exact ⟨rfl, rfl⟩
        · rw [va_up_ne _ _ w, va_up_ne _ _ w]; exact h t (by omega))
      rw [← nI_1] at kk
      exact kk
  refine jm_run hX [(2, [0, 1, 2])] 3 ?_
  exact loop1 81 0 (by omega) m0 FM.rf (fun t ht => absurd ht (by omega))
end RB13
