section RB16
variable {l : Launch} {D : va_G} {ca : Nat → ClassId}
def wpT (R : RD) (p : Nat) (kd : Int32) (q o k : Nat) : Nat := if o < R.O (q / 3) ∧ R.J (3 * (q / 3) + o) = -2 - nI p ∧ (kd = -1 ∨ kd = nI k) then rYv R (9 * (3 * o + k) + q) else 0
def wpt (R : RD) (p : Nat) (kd : Int32) (q : Nat) : Nat := if q / 3 < R.M then ds_nS (fun o => ds_nS (fun k => wpT R p kd q o k) 3) 3 else 0
abbrev p30 (k : Nat) : Prop := k = 30
theorem c_Mo_weighPort {m0 : jm_M} {rd wt : Nat → Nat} {f p : Nat} {kd : Int32} {R : RD} (S0 : MST m0 rd) (hV0 : MV m0 rd f R) (hL0 : LAY m0 rd R) (hw0 : lrow (m0.2.2.2.1 (rd 30)) wt 9) (hf : f < 2) (hR : ROK R) : jm_C l D ca n_Mo_weighPort [.ref (rd 0), .int (nI f), .int (nI p), .int kd] m0 0 0 (fun v m' => v = none ∧ FM rd p30 m0 m' ∧ lrow (m'.2.2.2.1 (rd 30)) (fun q => wt q + wpt R p kd q) 9) := by
  refine jm_C_of (cd := cd_Mo_weighPort) (ini := false) (by decide +kernel) ok_Mo_weighPort (fun h => by cases h) (Nat.le_of_ble_eq_true rfl) ?_
  intro X hX
  have hM := hR.2.1
  have o0 : ∀ {m : jm_M}, MST m rd → jm_ok m (rd 0) 6 := fun S => S.ok (Or.inl (by decide))
  have k1 : mkin 1 := Or.inl (by decide)
  have k3 : mkin 3 := Or.inl (by decide)
  have k4 : mkin 4 := Or.inl (by decide)
  have k19 : mkin 19 := Or.inr (Or.inl (by decide))
  have k30 : mkin 30 := Or.inr (Or.inr (Or.inl rfl))
  have ix3 : ∀ j, (3 : Int32) * nI f + nI j = nI (3 * f + j) := fun j => by
    have : (3 : Int32) * nI f = nI (3 * f) := pk_mul 3 f
    rw [this, nI_add]
  have ix9j : ∀ j o, (9 : Int32) * nI f + (3 : Int32) * nI j + nI o = nI (9 * f + (3 * j + o)) := fun j o => by
    have e1 : (3 : Int32) * nI j = nI (3 * j) := pk_mul 3 j
    rw [e1, ix9 f (3 * j), nI_add, Nat.add_assoc]
  -- a memory whose weights are g
  have put : ∀ {m : jm_M} {g g' : Nat → Nat} {q : Nat} {x : Int64}, FM rd p30 m0 m → lrow (m.2.2.2.1 (rd 30)) g 9 → q < 9 → x = lN (g' q) → (∀ i, i < 9 → i ≠ q → g' i = g i) → FM rd p30 m0 (uJ m (rd 30) q x) ∧ lrow ((uJ m (rd 30) q x).2.2.2.1 (rd 30)) g' 9 := fun {m g g' q x} hF hg hq hx he => by
    refine ⟨hF.tr (FM.uJ k30 rfl), fun i hi => ?_⟩
    show va_up m.2.2.2.1 (rd 30) (va_up (m.2.2.2.1 (rd 30)) q x) (rd 30) i = _
    rw [va_up_self]
    by_cases w : i = q
    · subst w; rw [va_up_self, hx]
    · rw [va_up_ne _ _ w, hg i hi, he i hi w]
  have outer : ∀ (e q : Nat), q + e = 9 → ∀ m, FM rd p30 m0 m → lrow (m.2.2.2.1 (rd 30)) (fun i => wt i + if i < q then wpt R p kd i else 0) 9 → X 3 [(0, .ref (rd 0)), (1, .int (nI f)), (2, .int (nI p)), (3, .int kd), (4, .int (nI q))] [] m 0 0 := by
    intro e
    induction e with
    | zero =>
      intro q hq m hF hg
      have : q = 9 := by omega
      subst this
      refine jm_run hX [] 6 ?_
      refine And.intro (fun _ => ⟨Nat.le_refl _, Nat.le_refl _, trivial, rfl, hF, fun i hi => ?_⟩) (fun g => absurd (nI_le (Nat.le_refl 9) (by decide)) g)
      rw [hg i hi]
      dsimp only
      rw [if_pos hi]
    | succ e ih =>
      intro q hq m hF hg
      have ed : nI q / nI 3 = nI (q / 3) := pk_div (a := q) (d := 3) (by omega) (by decide) (by decide)
      have k152 : ∀ m, FM rd p30 m0 m → lrow (m.2.2.2.1 (rd 30)) (fun i => wt i + if i < q + 1 then wpt R p kd i else 0) 9 → X 152 [(0, .ref (rd 0)), (1, .int (nI f)), (2, .int (nI p)), (3, .int kd), (4, .int (nI q))] [] m 0 0 := fun m hF hg => by
        have kk := ih (q + 1) (by omega) m hF hg
        rw [← nI_1] at kk
        refine jm_run hX [(3, [0, 1, 2, 3, 4])] 6 ?_
        exact kk
      have mid : ∀ (e o : Nat), o + e = 3 → ∀ m, FM rd p30 m0 m → lrow (m.2.2.2.1 (rd 30)) (fun i => wt i + if i < q then wpt R p kd i else if i = q ∧ q / 3 < R.M then ds_nS (fun o => ds_nS (fun k => wpT R p kd q o k) 3) o else 0) 9 → X 19 [(0, .ref (rd 0)), (1, .int (nI f)), (2, .int (nI p)), (3, .int kd), (4, .int (nI q)), (5, .int (nI (q / 3))), (6, .int (nI o))] [] m 0 0 := by
        intro e
        induction e with
        | zero =>
          intro o ho m hF hg
          have : o = 3 := by omega
          subst this
          refine jm_run hX [(152, [0, 1, 2, 3, 4])] 6 ?_
          refine And.intro (fun _ => k152 m hF (fun i hi => ?_)) (fun g => absurd (nI_le (Nat.le_refl 3) (by decide)) g)
          rw [hg i hi]
          dsimp only
          congr 2
          by_cases w : i = q
          · subst w
            rw [if_neg (Nat.lt_irrefl i), if_pos (Nat.lt_succ_self i)]
            unfold wpt
            by_cases w2 : i / 3 < R.M
            · rw [if_pos ⟨rfl, w2⟩, if_pos w2]
            · rw [if_neg (fun z => w2 z.2), if_neg w2]
          · by_cases w2 : i < q
            · rw [if_pos w2, if_pos (by omega)]
            · rw [if_neg w2, if_neg (fun z => w z.1), if_neg (by omega)]
        | succ e ih1 =>
          intro o ho m hF hg
          have S := hF.S S0
          have hV := hV0.fm S0 hF (fun k w => by have : k = 30 := w; omega)
          have eM : m.2.2.1 (rd 1) (nI f).toNatClampNeg = nI R.M := by rw [nI_c (by omega)]; exact hV.2.1
          refine jm_run hX [(39, [0, 1, 2, 3, 4, 5, 6, 7]), (152, [0, 1, 2, 3, 4])] 20 ?_
          refine And.intro (fun g => absurd (show nI 3 ≤ nI o from g) (nI_ge (by omega) (by omega))) (fun _ => ?_)
          refine And.intro (o0 S) ⟨some (rd 1), S.2.2 1 k1 (by decide), And.intro (S.ok k1) (And.intro (vin_of (S.len k1) (show f < 2 by omega) (by decide)) ?_)⟩
          refine And.intro (fun g => ?_) (fun g => ?_)
          · have g : m.2.2.1 (rd 1) (nI f).toNatClampNeg ≤ nI (q / 3) := g
            rw [eM, nI_leI (by omega) (by omega)] at g
            refine k152 m hF (fun i hi => ?_)
            rw [hg i hi]
            dsimp only
            congr 2
            by_cases w : i = q
            · subst w
              rw [if_neg (Nat.lt_irrefl i), if_pos (Nat.lt_succ_self i), if_neg (fun z => absurd z.2 (by omega))]
              unfold wpt
              rw [if_neg (by omega)]
            · by_cases w2 : i < q
              · rw [if_pos w2, if_pos (by omega)]
              · rw [if_neg w2, if_neg (fun z => w z.1), if_neg (by omega)]
          · have g : ¬ m.2.2.1 (rd 1) (nI f).toNatClampNeg ≤ nI (q / 3) := g
            rw [eM, nI_leI (by omega) (by omega)] at g
            have hqM : q / 3 < R.M := by omega
            have hou := hR.2.2.2.1 (q / 3) hqM
            have inner : ∀ (e n : Nat), n + e = 3 → ∀ m, FM rd p30 m0 m → lrow (m.2.2.2.1 (rd 30)) (fun i => wt i + if i < q then wpt R p kd i else if i = q ∧ q / 3 < R.M then ds_nS (fun o => ds_nS (fun k => wpT R p kd q o k) 3) o + ds_nS (fun k => wpT R p kd q o k) n else 0) 9 → X 39 [(0, .ref (rd 0)), (1, .int (nI f)), (2, .int (nI p)), (3, .int kd), (4, .int (nI q)), (5, .int (nI (q / 3))), (6, .int (nI o)), (7, .int (nI n))] [] m 0 0 := by
              intro e
              induction e with
              | zero =>
                intro n hn m hF hg
                have : n = 3 := by omega
                subst this
                have kk := ih1 (o + 1) (by omega) m hF hg
                rw [← nI_1] at kk
                refine jm_run hX [(19, [0, 1, 2, 3, 4, 5, 6])] 10 ?_
                exact And.intro (fun _ => kk) (fun g => absurd (nI_le (Nat.le_refl 3) (by decide)) g)
              | succ e ih2 =>
                intro n hn m hF hg
                have S := hF.S S0
                have hV := hV0.fm S0 hF (fun k w => by have : k = 30 := w; omega)
                have hL := hL0.fm S0 hF (fun k w w2 => by show ¬ k = 30; omega)
                have i1 : 9 * (3 * o + n) + q < 81 := by omega
                have hin19 : vp_in ((9 : Int32) * ((3 : Int32) * nI o + nI n) + nI q) (m.2.1 (rd 19)).2 := by rw [ix93]; exact vin_of (S.len k19) i1 (by decide)
                have ew : m.2.2.2.1 (rd 19) ((9 : Int32) * ((3 : Int32) * nI o + nI n) + nI q).toNatClampNeg = lN (rYv R (9 * (3 * o + n) + q)) := by
                  rw [ix93, nI_c (by omega), hL.2.2 _ i1]
                have hin30 : vp_in (nI q) (m.2.1 (rd 30)).2 := vin_of (S.len k30) (show q < 9 by omega) (by decide)
                have k138 : ∀ x, x = wpT R p kd q o n → X 138 [(0, .ref (rd 0)), (1, .int (nI f)), (2, .int (nI p)), (3, .int kd), (4, .int (nI q)), (5, .int (nI (q / 3))), (6, .int (nI o)), (7, .int (nI n))] [.long (lN x), .long (m.2.2.2.1 (rd 30) (nI q).toNatClampNeg), .int (nI q), .ref (rd 30)] m 0 0 := fun x hx => by
                  have hp := put (m := m) (g := _) (g' := fun i => wt i + if i < q then wpt R p kd i else if i = q ∧ q / 3 < R.M then ds_nS (fun o => ds_nS (fun k => wpT R p kd q o k) 3) o + ds_nS (fun k => wpT R p kd q o k) (n + 1) else 0) (q := q) (x := m.2.2.2.1 (rd 30) (nI q).toNatClampNeg + lN x) hF hg (by omega) (by
                    rw [nI_c (by omega), hg q (by omega), lN_add]
                    dsimp only
                    rw [if_neg (Nat.lt_irrefl q), if_neg (Nat.lt_irrefl q), if_pos ⟨rfl, hqM⟩, if_pos ⟨rfl, hqM⟩, hx, Nat.add_assoc, Nat.add_assoc]
                    rfl) (fun i hi w => by
                      congr 1
                      by_cases w2 : i < q
                      · rw [if_pos w2, if_pos w2]
                      · rw [if_neg w2, if_neg w2, if_neg (fun z => w z.1), if_neg (fun z => w z.1)])
                  have kk := ih2 (n + 1) (by omega) _ hp.1 hp.2
                  rw [← nI_1] at kk
                  have e2 : (nI q).toNatClampNeg = q := nI_c (by omega)
                  refine jm_run hX [(39, [0, 1, 2, 3, 4, 5, 6, 7])] 10 ?_
                  refine And.intro (S.ok k30) (And.intro hin30 ?_)
                  have kk2 : X 39 [(0, .ref (rd 0)), (1, .int (nI f)), (2, .int (nI p)), (3, .int kd), (4, .int (nI q)), (5, .int (nI (q / 3))), (6, .int (nI o)), (7, .int (nI n + 1))] [] (uJ m (rd 30) (nI q).toNatClampNeg (m.2.2.2.1 (rd 30) (nI q).toNatClampNeg + lN x)) 0 0 := by
                    rw [e2] at kk ⊢; exact kk
                  exact kk2
                have k101 : ∀ b, b = decide (o < R.O (q / 3) ∧ R.J (3 * (q / 3) + o) = -2 - nI p ∧ (kd = -1 ∨ kd = nI n)) → X 101 [(0, .ref (rd 0)), (1, .int (nI f)), (2, .int (nI p)), (3, .int kd), (4, .int (nI q)), (5, .int (nI (q / 3))), (6, .int (nI o)), (7, .int (nI n))] [.int (bI b)] m 0 0 := fun b hb => by
                  refine jm_run hX [(138, [0, 1, 2, 3, 4, 5, 6, 7])] 40 ?_
                  refine And.intro (o0 S) ⟨some (rd 30), S.2.2 30 k30 (by decide), And.intro rfl (And.intro rfl (And.intro (S.ok k30) (And.intro hin30 ?_)))⟩
                  refine And.intro (fun g => ?_) (fun g => ?_)
                  · have g : bI b = 0 := g
                    rw [bI_eq0, hb, decide_eq_false_iff_not] at g
                    exact k138 0 (by unfold wpT; rw [if_neg g])
                  · have g : ¬ bI b = 0 := g
                    rw [bI_eq0, Bool.not_eq_false, hb, decide_eq_true_iff] at g
                    have kk := k138 (rYv R (9 * (3 * o + n) + q)) (by unfold wpT; rw [if_pos g])
                    refine And.intro (o0 S) ⟨some (rd 19), S.2.2 19 k19 (by decide), And.intro (S.ok k19) (And.intro hin19 ?_)⟩
                    rw [← ew] at kk
                    exact kk
                have hin3 : vp_in ((3 : Int32) * nI f + nI (q / 3)) (m.2.1 (rd 3)).2 := by rw [ix3]; exact vin_of (S.len k3) (show 3 * f + q / 3 < 6 by omega) (by decide)
                have eo : m.2.2.1 (rd 3) ((3 : Int32) * nI f + nI (q / 3)).toNatClampNeg = nI (R.O (q / 3)) := by rw [ix3, nI_c (by omega), hV.2.2.2.1 _ (by omega)]
                have hin4 : vp_in ((9 : Int32) * nI f + (3 : Int32) * nI (q / 3) + nI o) (m.2.1 (rd 4)).2 := by rw [ix9j]; exact vin_of (S.len k4) (show 9 * f + (3 * (q / 3) + o) < 18 by omega) (by decide)
                have ej : m.2.2.1 (rd 4) ((9 : Int32) * nI f + (3 : Int32) * nI (q / 3) + nI o).toNatClampNeg = R.J (3 * (q / 3) + o) := by rw [ix9j, nI_c (by omega), hV.2.2.2.2.1 _ (by omega)]
                refine jm_run hX [(101, [0, 1, 2, 3, 4, 5, 6, 7])] 60 ?_
                refine And.intro (fun g => absurd (show nI 3 ≤ nI n from g) (nI_ge (by omega) (by omega))) (fun _ => ?_)
                refine And.intro (o0 S) ⟨some (rd 3), S.2.2 3 k3 (by decide), And.intro (S.ok k3) (And.intro hin3 ?_)⟩
                refine And.intro (fun g => ?_) (fun g => ?_)
                · have g : m.2.2.1 (rd 3) ((3 : Int32) * nI f + nI (q / 3)).toNatClampNeg ≤ nI o := g
                  rw [eo, nI_leI (by omega) (by omega)] at g
                  exact k101 false (decide_eq_false (fun z => absurd z.1 (by omega))).symm
                · have g : ¬ m.2.2.1 (rd 3) ((3 : Int32) * nI f + nI (q / 3)).toNatClampNeg ≤ nI o := g
                  rw [eo, nI_leI (by omega) (by omega)] at g
                  refine And.intro (o0 S) ⟨some (rd 4), S.2.2 4 k4 (by decide), And.intro (S.ok k4) (And.intro hin4 ?_)⟩
                  refine And.intro (fun g2 => ?_) (fun g2 => ?_)
                  · have g2 : m.2.2.1 (rd 4) ((9 : Int32) * nI f + (3 : Int32) * nI (q / 3) + nI o).toNatClampNeg = -2 - nI p := g2
                    rw [ej] at g2
                    refine And.intro (fun g3 => ?_) (fun g3 => ?_)
                    · have g3 : kd = -1 := g3
                      exact k101 true (decide_eq_true ⟨by omega, g2, Or.inl g3⟩).symm
                    · have g3 : ¬ kd = -1 := g3
                      refine And.intro (fun g4 => ?_) (fun g4 => ?_)
                      · have g4 : kd = nI n := g4
                        exact k101 true (decide_eq_true ⟨by omega, g2, Or.inr g4⟩).symm
                      · have g4 : ¬ kd = nI n := g4
                        exact k101 false (decide_eq_false (fun z => z.2.2.elim g3 g4)).symm
                  · have g2 : ¬ m.2.2.1 (rd 4) ((9 : Int32) * nI f + (3 : Int32) * nI (q / 3) + nI o).toNatClampNeg = -2 - nI p := g2
                    rw [ej] at g2
                    exact k101 false (decide_eq_false (fun z => g2 z.2.1)).symm
            exact inner 3 0 (by omega) m hF hg
      have kk := mid 3 0 (by omega) m hF (fun i hi => by
        rw [hg i hi]
        dsimp only
        congr 2
        by_cases w2 : i < q
        · rw [if_pos w2, if_pos w2]
        · rw [if_neg w2, if_neg w2]
          split <;> rfl)
      rw [← ed] at kk
      refine jm_run hX [(19, [0, 1, 2, 3, 4, 5, 6])] 20 ?_
      refine And.intro (fun g => absurd (show nI 9 ≤ nI q from g) (nI_ge (by omega) (by omega))) (fun _ => ?_)
      exact And.intro (show ¬ (3 : Int32) = 0 by decide) kk
  refine jm_run hX [(3, [0, 1, 2, 3, 4])] 5 ?_
  exact outer 9 0 (by omega) m0 FM.rf (fun i hi => by rw [hw0 i hi]; rfl)
end RB16
