section RB14
variable {l : Launch} {D : va_G} {ca : Nat → ClassId}
theorem rcom_le {R : RD} (h : ROK R) {j k : Nat} (hj : j < 3) (hk : k < 3) : 1 ≤ rcom R j k ∧ rcom R j k ≤ 144 := by
  unfold rcom
  have a := (h.2.2.2.2.2.1 (2 * (3 * j + k)) (by omega)).1
  have b := (h.2.2.2.2.2.1 (2 * (3 * j + k) + 1) (by omega)).1
  exact ⟨Nat.mul_le_mul a.1 b.1, Nat.mul_le_mul a.2 b.2⟩
theorem rpart_le {R : RD} (h : ROK R) {j k o : Nat} (hj : j < 3) (hk : k < 3) : rpart R j k o ≤ rcom R j k := by
  have a := h.2.2.2.2.2.1 (2 * (3 * j + k)) (by omega)
  have b := h.2.2.2.2.2.1 (2 * (3 * j + k) + 1) (by omega)
  have c1 : R.A (2 * (3 * j + k)) * R.B (2 * (3 * j + k) + 1) ≤ rcom R j k := Nat.mul_le_mul_right _ a.2
  have c2 : R.A (2 * (3 * j + k) + 1) * R.B (2 * (3 * j + k)) ≤ rcom R j k := by
    unfold rcom
    rw [Nat.mul_comm (R.B (2 * (3 * j + k)))]
    exact Nat.mul_le_mul_right _ b.2
  unfold rpart
  by_cases w : o + 1 = R.O j
  · rw [if_pos w]; omega
  · rw [if_neg w]
    by_cases w2 : o = 0
    · rw [if_pos w2]; exact c1
    · rw [if_neg w2]; exact c2
theorem wy_le {R : RD} (h : ROK R) {j k o k2 : Nat} (hj : j < 3) (hk : k < R.K) : wy R j k o k2 ≤ 500000 := by
  have hK := h.1
  have hc := h.2.2.2.2.2.2.2.1 (3 * j + k) (by omega)
  have a1 := rcom_le h hj (show k < 3 by omega)
  have a2 := rcom_le h hj (show R.T (3 * j + k) < 3 by omega)
  have p1 := rpart_le h (o := o) hj (show k < 3 by omega)
  have p2 := rpart_le h (o := o) hj (show R.T (3 * j + k) < 3 by omega)
  have ho : roth R j k ≤ 144 := by unfold roth; split <;> omega
  have m3 : ∀ a b c : Nat, a ≤ 12 → b ≤ 144 → c ≤ 144 → a * b * c ≤ 248832 := fun a b c x y z => Nat.mul_le_mul (Nat.mul_le_mul x y) z
  unfold wy
  have q1 := m3 (R.E (3 * j + k) - R.C (3 * j + k)) (roth R j k) (rpart R j k o) (by omega) ho (by omega)
  have q2 := m3 (R.C (3 * j + k)) (rcom R j k) (rpart R j (R.T (3 * j + k)) o) (by omega) (by omega) (by omega)
  have r1 : (if k2 = k then (R.E (3 * j + k) - R.C (3 * j + k)) * roth R j k * rpart R j k o else 0) ≤ 248832 := by split <;> omega
  have r2 : (if 0 < R.C (3 * j + k) ∧ k2 = R.T (3 * j + k) then R.C (3 * j + k) * rcom R j k * rpart R j k2 o else 0) ≤ 248832 := by
    split
    · next w => rw [w.2]; exact q2
    · exact Nat.zero_le _
  omega
theorem rYv_le {R : RD} (h : ROK R) {t : Nat} : rYv R t ≤ 500000 := by
  have hM := h.2.1
  unfold rYv
  split
  · next w => split
              · exact wy_le h (by omega) w.2
              · exact Nat.zero_le _
  · exact Nat.zero_le _
theorem rYv_at {R : RD} {o k2 j k : Nat} (hk2 : k2 < 3) (hk3 : k < 3) (hj : j < R.M) (hk : k < R.K) (hM : R.M ≤ 3) (ho : o < R.O j) : rYv R (9 * (3 * o + k2) + (3 * j + k)) = wy R j k o k2 := by
  have h1 := ix93n (o := o) (k := k2) (q := 3 * j + k) hk2 (by omega)
  unfold rYv
  have e1 : (3 * j + k) / 3 = j := by omega
  have e2 : (3 * j + k) % 3 = k := by omega
  rw [h1.1, h1.2.1, h1.2.2, if_pos (show inN R (3 * j + k) from ⟨by omega, by omega⟩), e1, e2, if_pos ho]
def FB (F : Nat) (st : Nat → Bool) : Prop := F < 512 ∧ ∀ i, i < 9 → st i = Nat.testBit F i
theorem fb_get : ∀ F, F < 512 → ∀ i, i < 9 → (nI F >>> (nI i &&& 31)) &&& 1 = bI (Nat.testBit F i) := by decide +kernel
theorem fb_or : ∀ F, F < 512 → ∀ i, i < 9 → nI F ||| (nI 1 <<< (nI i &&& 31)) = nI (F ||| 2 ^ i) ∧ F ||| 2 ^ i < 512 := by decide +kernel
theorem fb_or0 : ∀ F, F < 512 → nI F ||| nI 0 = nI F := by decide +kernel
theorem FB.set {F : Nat} {st : Nat → Bool} (h : FB F st) {i : Nat} (hi : i < 9) : FB (F ||| 2 ^ i) (va_up st i true) := by
  refine ⟨(fb_or F h.1 i hi).2, fun q hq => ?_⟩
  rw [Nat.testBit_or, Nat.testBit_two_pow]
  by_cases w : q = i
  · subst w; rw [va_up_self, decide_eq_true rfl, Bool.or_true]
  · rw [va_up_ne _ _ w, decide_eq_false (fun z => w z.symm), Bool.or_false]; exact h.2 q hq
theorem bI01 (b : Bool) : bI b = 0 ∨ bI b = 1 := by cases b <;> decide
theorem bI_eq1 (b : Bool) : bI b = 1 ↔ b = true := by cases b <;> decide
theorem bI_eq0 (b : Bool) : bI b = 0 ↔ b = false := by cases b <;> decide
theorem c_Mo_goes {m : jm_M} {rd : Nat → Nat} {f j k F : Nat} {R : RD} {st : Nat → Bool} (S : MST m rd) (hV : MV m rd f R) (hL : LAY m rd R) (hf : f < 2) (hR : ROK R) (hj : j < R.M) (hk : k < R.K) (hF : FB F st) : jm_C l D ca n_Mo_goes [.ref (rd 0), .int (nI f), .int (nI j), .int (nI k), .int (nI F)] m 0 0 (fun v m' => m' = m ∧ v = some (.int (bI (rgo R st j k (R.O j))))) := by
  refine jm_C_of (cd := cd_Mo_goes) (ini := false) (by decide +kernel) ok_Mo_goes (fun h => by cases h) (Nat.le_of_ble_eq_true rfl) ?_
  intro X hX
  have hM := hR.2.1
  have hK := hR.1
  have hou := hR.2.2.2.1 j hj
  have o0 : jm_ok m (rd 0) 6 := S.ok (Or.inl (by decide))
  have k3 : mkin 3 := Or.inl (by decide)
  have k4 : mkin 4 := Or.inl (by decide)
  have k19 : mkin 19 := Or.inr (Or.inl (by decide))
  have ix3 : (3 : Int32) * nI f + nI j = nI (3 * f + j) := by
    have : (3 : Int32) * nI f = nI (3 * f) := pk_mul 3 f
    rw [this, nI_add]
  have ix9j : ∀ o, (9 : Int32) * nI f + (3 : Int32) * nI j + nI o = nI (9 * f + (3 * j + o)) := fun o => by
    have e1 : (3 : Int32) * nI j = nI (3 * j) := pk_mul 3 j
    rw [e1, ix9 f (3 * j), nI_add, Nat.add_assoc]
  have eq3 : (3 : Int32) * nI j + nI k = nI (3 * j + k) := by
    have : (3 : Int32) * nI j = nI (3 * j) := pk_mul 3 j
    rw [this, nI_add]
  have hin3 : vp_in ((3 : Int32) * nI f + nI j) (m.2.1 (rd 3)).2 := by rw [ix3]; exact vin_of (S.len k3) (show 3 * f + j < 6 by omega) (by decide)
  have eo : m.2.2.1 (rd 3) ((3 : Int32) * nI f + nI j).toNatClampNeg = nI (R.O j) := by rw [ix3, nI_c (by omega), hV.2.2.2.1 j (by omega)]
  have outer : ∀ (e o : Nat), o + e = R.O j → X 13 [(0, .ref (rd 0)), (1, .int (nI f)), (2, .int (nI j)), (3, .int (nI k)), (4, .int (nI F)), (5, .int (nI (3 * j + k))), (6, .int (bI (rgo R st j k o))), (7, .int (nI o))] [] m 0 0 := by
    intro e
    induction e with
    | zero =>
      intro o ho
      refine jm_run hX [] 30 ?_
      refine And.intro o0 ⟨some (rd 3), S.2.2 3 k3 (by decide), And.intro (S.ok k3) (And.intro hin3 ?_)⟩
      refine And.intro (fun _ => ?_) (fun g => absurd (show m.2.2.1 (rd 3) ((3 : Int32) * nI f + nI j).toNatClampNeg ≤ nI o from by rw [eo]; exact nI_le (by omega) (by omega)) g)
      have : o = R.O j := by omega
      subst this
      exact ⟨Nat.le_refl _, Nat.le_refl _, bI01 _, rfl, rfl⟩
    | succ e ih =>
      intro o ho
      have hin4 : vp_in ((9 : Int32) * nI f + (3 : Int32) * nI j + nI o) (m.2.1 (rd 4)).2 := by rw [ix9j]; exact vin_of (S.len k4) (show 9 * f + (3 * j + o) < 18 by omega) (by decide)
      have ej : m.2.2.1 (rd 4) ((9 : Int32) * nI f + (3 : Int32) * nI j + nI o).toNatClampNeg = R.J (3 * j + o) := by rw [ix9j, nI_c (by omega), hV.2.2.2.2.1 _ (by omega)]
      have inner : ∀ (e n : Nat), n + e = R.K → X 49 [(0, .ref (rd 0)), (1, .int (nI f)), (2, .int (nI j)), (3, .int (nI k)), (4, .int (nI F)), (5, .int (nI (3 * j + k))), (6, .int (bI (rgo R st j k o || rgoK R st j k o n))), (7, .int (nI o)), (8, .int (R.J (3 * j + o))), (9, .int (nI n))] [] m 0 0 := by
        intro e
        induction e with
        | zero =>
          intro n hn
          refine jm_run hX [(13, [0, 1, 2, 3, 4, 5, 6, 7])] 30 ?_
          refine And.intro o0 ?_
          refine And.intro (fun _ => ?_) (fun g => absurd (show m.2.2.1 (rd 0) 0 ≤ nI n from by rw [hV.1]; exact nI_le (by omega) (by omega)) g)
          have : n = R.K := by omega
          subst this
          have kk := ih (o + 1) (by omega)
          rw [← nI_1] at kk
          exact kk
        | succ e ih2 =>
          intro n hn
          have i1 : 9 * (3 * o + n) + (3 * j + k) < 81 := by omega
          have hin1 : vp_in ((9 : Int32) * ((3 : Int32) * nI o + nI n) + nI (3 * j + k)) (m.2.1 (rd 19)).2 := by rw [ix93]; exact vin_of (S.len k19) i1 (by decide)
          have ew : m.2.2.2.1 (rd 19) ((9 : Int32) * ((3 : Int32) * nI o + nI n) + nI (3 * j + k)).toNatClampNeg = lN (wy R j k o n) := by
            rw [ix93, nI_c (by omega), hL.2.2 _ i1, rYv_at (by omega) (by omega) hj hk hM (by omega)]
          have hwl := wy_le hR (o := o) (k2 := n) (show j < 3 by omega) hk
          have kk := ih2 (n + 1) (by omega)
          have k124 : ∀ b, b = (rgo R st j k o || rgoK R st j k o (n + 1)) → ∀ x, X 124 [(0, .ref (rd 0)), (1, .int (nI f)), (2, .int (nI j)), (3, .int (nI k)), (4, .int (nI F)), (5, .int (nI (3 * j + k))), (6, .int (bI (rgo R st j k o || rgoK R st j k o n))), (7, .int (nI o)), (8, .int (R.J (3 * j + o))), (9, .int (nI n)), (10, x)] [.int (bI b)] m 0 0 := fun b hb x => by
            subst hb
            refine jm_run hX [(49, [0, 1, 2, 3, 4, 5, 6, 7, 8, 9])] 5 ?_
            rw [← nI_1] at kk
            exact kk
          have hg : (rgo R st j k o || rgoK R st j k o (n + 1)) = ((rgo R st j k o || rgoK R st j k o n) || (decide (0 < wy R j k o n) && (decide ((R.J (3 * j + o)).toInt < 0) || st (3 * (R.J (3 * j + o)).toInt.toNat + n)))) := (Bool.or_assoc ..).symm
          generalize hold : (rgo R st j k o || rgoK R st j k o n) = old at *
          have k88 : X 88 [(0, .ref (rd 0)), (1, .int (nI f)), (2, .int (nI j)), (3, .int (nI k)), (4, .int (nI F)), (5, .int (nI (3 * j + k))), (6, .int (bI old)), (7, .int (nI o)), (8, .int (R.J (3 * j + o))), (9, .int (nI n)), (10, .int (bI (decide (0 < wy R j k o n))))] [] m 0 0 := by
            refine jm_run hX [(124, [0, 1, 2, 3, 4, 5, 6, 7, 8, 9, 10])] 40 ?_
            refine And.intro (fun g => ?_) (fun g => ?_)
            · have g : bI old = 0 := g
              rw [bI_eq0] at g
              refine And.intro (fun g2 => ?_) (fun g2 => ?_)
              · have g2 : bI (decide (0 < wy R j k o n)) = 0 := g2
                rw [bI_eq0] at g2
                exact k124 false (by rw [hg, g2, g]; rfl) _
              · have g2 : ¬ bI (decide (0 < wy R j k o n)) = 0 := g2
                rw [bI_eq0, Bool.not_eq_false] at g2
                refine And.intro (fun g3 => ?_) (fun g3 => ?_)
                · have g3 : R.J (3 * j + o) < 0 := g3
                  rw [Int32.lt_iff_toInt_lt] at g3
                  exact k124 true (by rw [hg, g2, g, decide_eq_true (show (R.J (3 * j + o)).toInt < 0 from g3)]; rfl) _
                · have g3 : ¬ R.J (3 * j + o) < 0 := g3
                  rw [Int32.lt_iff_toInt_lt] at g3
                  have hjj := j_nn (hR.2.2.2.2.1 (3 * j + o) (by omega)) hM (show 0 ≤ (R.J (3 * j + o)).toInt from Int.not_lt.mp g3)
                  generalize hto : (R.J (3 * j + o)).toInt.toNat = to at *
                  have eb : (nI F >>> (((3 : Int32) * R.J (3 * j + o) + nI n) &&& 31)) &&& 1 = bI (st (3 * to + n)) := by
                    have e1 : (3 : Int32) * nI to = nI (3 * to) := pk_mul 3 to
                    rw [hjj.2, e1, nI_add, fb_get F hF.1 _ (by omega), hF.2 _ (by omega)]
                  have hd : decide ((R.J (3 * j + o)).toInt < 0) = false := decide_eq_false g3
                  rw [hd, g2, g, Bool.false_or, Bool.true_and, Bool.false_or] at hg
                  refine And.intro (fun g4 => ?_) (fun g4 => ?_)
                  · have g4 : (nI F >>> (((3 : Int32) * R.J (3 * j + o) + nI n) &&& 31)) &&& 1 = 1 := g4
                    rw [eb, bI_eq1] at g4
                    exact k124 true (by rw [hg, g4]) _
                  · have g4 : ¬ (nI F >>> (((3 : Int32) * R.J (3 * j + o) + nI n) &&& 31)) &&& 1 = 1 := g4
                    rw [eb, bI_eq1, Bool.not_eq_true] at g4
                    exact k124 false (by rw [hg, g4]) _
            · have g : ¬ bI old = 0 := g
              rw [bI_eq0, Bool.not_eq_false] at g
              exact k124 true (by rw [hg, g]; rfl) _
          refine jm_run hX [(88, [0, 1, 2, 3, 4, 5, 6, 7, 8, 9, 10])] 30 ?_
          refine And.intro o0 ?_
          refine And.intro (fun g => absurd (show m.2.2.1 (rd 0) 0 ≤ nI n from g) (by rw [hV.1]; exact nI_ge (by omega) (by omega))) (fun _ => ?_)
          refine And.intro o0 ⟨some (rd 19), S.2.2 19 k19 (by decide), And.intro (S.ok k19) (And.intro hin1 ?_)⟩
          refine And.intro (fun g => ?_) (fun g => ?_)
          · have g : lg_cmp (m.2.2.2.1 (rd 19) ((9 : Int32) * ((3 : Int32) * nI o + nI n) + nI (3 * j + k)).toNatClampNeg) (lN 0) ≤ 0 := g
            rw [ew, lg_cmp_le, pk_lLE (by omega) (by decide)] at g
            rw [decide_eq_false (by omega)] at k88
            exact k88
          · have g : ¬ lg_cmp (m.2.2.2.1 (rd 19) ((9 : Int32) * ((3 : Int32) * nI o + nI n) + nI (3 * j + k)).toNatClampNeg) (lN 0) ≤ 0 := g
            rw [ew, lg_cmp_le, pk_lLE (by omega) (by decide)] at g
            rw [decide_eq_true (by omega)] at k88
            exact k88
      have kk := inner R.K 0 (by omega)
      rw [show (rgo R st j k o || rgoK R st j k o 0) = rgo R st j k o from Bool.or_false _, ← ej] at kk
      refine jm_run hX [(49, [0, 1, 2, 3, 4, 5, 6, 7, 8, 9])] 30 ?_
      refine And.intro o0 ⟨some (rd 3), S.2.2 3 k3 (by decide), And.intro (S.ok k3) (And.intro hin3 ?_)⟩
      refine And.intro (fun g => absurd (show m.2.2.1 (rd 3) ((3 : Int32) * nI f + nI j).toNatClampNeg ≤ nI o from g) (by rw [eo]; exact nI_ge (by omega) (by omega))) (fun _ => ?_)
      refine And.intro o0 ⟨some (rd 4), S.2.2 4 k4 (by decide), And.intro (S.ok k4) (And.intro hin4 ?_)⟩
      exact kk
  have kk := outer (R.O j) 0 (by omega)
  rw [← eq3] at kk
  refine jm_run hX [(13, [0, 1, 2, 3, 4, 5, 6, 7])] 12 ?_
  exact kk
end RB14
