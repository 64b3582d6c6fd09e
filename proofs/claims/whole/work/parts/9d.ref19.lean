section RB19
variable {l : Launch} {D : va_G} {ca : Nat → ClassId}
theorem c_Mo_isShare {m : jm_M} (x y : Int64) : jm_C l D ca n_Mo_isShare [.long x, .long y] m 0 0 (fun v m' => m' = m ∧ v = some (.int (if (1 ≤ y.toInt ∧ y.toInt ≤ 12) ∧ 0 ≤ x.toInt ∧ x.toInt ≤ y.toInt then 1 else 0))) := by
  refine jm_C_of (cd := cd_Mo_isShare) (ini := false) (by decide +kernel) ok_Mo_isShare (fun h => by cases h) (Nat.le_of_ble_eq_true rfl) ?_
  intro X hX
  have e1 : (1 : Int64).toInt = 1 := by decide
  have e0 : (0 : Int64).toInt = 0 := by decide
  have e12 : (12 : Int64).toInt = 12 := by decide
  refine jm_run hX [] 30 ?_
  refine And.intro (fun g => ?_) (fun g => ?_)
  · have g : lg_cmp y 1 < 0 := g
    rw [lg_cmp_lt, Int64.lt_iff_toInt_lt, e1] at g
    exact ⟨Nat.le_refl _, Nat.le_refl _, Or.inl rfl, rfl, by rw [if_neg (by omega)]⟩
  have g : ¬ lg_cmp y 1 < 0 := g
  rw [lg_cmp_lt, Int64.lt_iff_toInt_lt, e1] at g
  refine And.intro (fun g2 => ?_) (fun g2 => ?_)
  · have g2 : 0 < lg_cmp y 12 := g2
    rw [lg_cmp_gt, Int64.lt_iff_toInt_lt, e12] at g2
    exact ⟨Nat.le_refl _, Nat.le_refl _, Or.inl rfl, rfl, by rw [if_neg (by omega)]⟩
  have g2 : ¬ 0 < lg_cmp y 12 := g2
  rw [lg_cmp_gt, Int64.lt_iff_toInt_lt, e12] at g2
  refine And.intro (fun g3 => ?_) (fun g3 => ?_)
  · have g3 : lg_cmp x 0 < 0 := g3
    rw [lg_cmp_lt, Int64.lt_iff_toInt_lt, e0] at g3
    exact ⟨Nat.le_refl _, Nat.le_refl _, Or.inl rfl, rfl, by rw [if_neg (by omega)]⟩
  have g3 : ¬ lg_cmp x 0 < 0 := g3
  rw [lg_cmp_lt, Int64.lt_iff_toInt_lt, e0] at g3
  refine And.intro (fun g4 => ?_) (fun g4 => ?_)
  · have g4 : 0 < lg_cmp x y := g4
    rw [lg_cmp_gt, Int64.lt_iff_toInt_lt] at g4
    exact ⟨Nat.le_refl _, Nat.le_refl _, Or.inl rfl, rfl, by rw [if_neg (by omega)]⟩
  · have g4 : ¬ 0 < lg_cmp x y := g4
    rw [lg_cmp_gt, Int64.lt_iff_toInt_lt] at g4
    exact ⟨Nat.le_refl _, Nat.le_refl _, Or.inr rfl, rfl, by rw [if_pos (by omega)]⟩
abbrev isM (R : RD) (x : Int32) : Prop := 0 ≤ x.toInt ∧ x.toInt < (R.M : Int)
abbrev isK (R : RD) (y : Int32) : Prop := 0 ≤ y.toInt ∧ y.toInt < (R.K : Int)
abbrev isO (R : RD) (x z : Int32) : Prop := isM R x ∧ 0 ≤ z.toInt ∧ z.toInt < (R.O x.toInt.toNat : Int)
abbrev isFr (R : RD) (x y z : Int32) : Prop := isO R x z ∧ isK R y ∧ z.toInt + 1 < (R.O x.toInt.toNat : Int)
theorem c_Mo_isMachine {m : jm_M} {rd : Nat → Nat} {A : RSt} {n : Nat} (h : MI m rd A n) (x : Int32) : jm_C l D ca n_Mo_isMachine [.ref (rd 0), .int x] m 0 0 (fun v m' => m' = m ∧ v = some (.int (if isM A.1 x then 1 else 0))) := by
  refine jm_C_of (cd := cd_Mo_isMachine) (ini := false) (by decide +kernel) ok_Mo_isMachine (fun h => by cases h) (Nat.le_of_ble_eq_true rfl) ?_
  intro X hX
  have S := h.1
  have hV : MV m rd 0 A.1 := (h.2.1 0 (by decide)).1
  have hR : ROK A.1 := (h.2.1 0 (by decide)).2
  have hM : A.1.M ≤ 3 := hR.2.1
  have o0 : jm_ok m (rd 0) 6 := S.ok (Or.inl (by decide))
  have k1 : mkin 1 := Or.inl (by decide)
  have eM : m.2.2.1 (rd 1) 0 = nI A.1.M := hV.2.1
  refine jm_run hX [] 30 ?_
  refine And.intro (fun g => ?_) (fun g => ?_)
  · rw [ilt0] at g
    exact ⟨Nat.le_refl _, Nat.le_refl _, Or.inl rfl, rfl, by rw [if_neg (fun z => by omega)]⟩
  · rw [ilt0] at g
    refine And.intro o0 ⟨some (rd 1), S.2.2 1 k1 (by decide), And.intro (S.ok k1) (And.intro (show vp_in (nI 0) (m.2.1 (rd 1)).2 from vin_of (S.len k1) (by decide) (by decide)) ?_)⟩
    refine And.intro (fun g2 => ?_) (fun g2 => ?_)
    · have g2 : m.2.2.1 (rd 1) 0 ≤ x := g2
      rw [eM, ileN (by omega)] at g2
      exact ⟨Nat.le_refl _, Nat.le_refl _, Or.inl rfl, rfl, by rw [if_neg (fun z => by omega)]⟩
    · have g2 : ¬ m.2.2.1 (rd 1) 0 ≤ x := g2
      rw [eM, ileN (by omega)] at g2
      exact ⟨Nat.le_refl _, Nat.le_refl _, Or.inr rfl, rfl, by rw [if_pos (show isM A.1 x from ⟨by omega, by omega⟩)]⟩
theorem c_Mo_isKind {m : jm_M} {rd : Nat → Nat} {A : RSt} {n : Nat} (h : MI m rd A n) (x : Int32) : jm_C l D ca n_Mo_isKind [.ref (rd 0), .int x] m 0 0 (fun v m' => m' = m ∧ v = some (.int (if isK A.1 x then 1 else 0))) := by
  refine jm_C_of (cd := cd_Mo_isKind) (ini := false) (by decide +kernel) ok_Mo_isKind (fun h => by cases h) (Nat.le_of_ble_eq_true rfl) ?_
  intro X hX
  have S := h.1
  have hV : MV m rd 0 A.1 := (h.2.1 0 (by decide)).1
  have hR : ROK A.1 := (h.2.1 0 (by decide)).2
  have hK : 1 ≤ A.1.K ∧ A.1.K ≤ 3 := hR.1
  have o0 : jm_ok m (rd 0) 6 := S.ok (Or.inl (by decide))
  have eK : m.2.2.1 (rd 0) 0 = nI A.1.K := hV.1
  refine jm_run hX [] 30 ?_
  refine And.intro (fun g => ?_) (fun g => ?_)
  · rw [ilt0] at g
    exact ⟨Nat.le_refl _, Nat.le_refl _, Or.inl rfl, rfl, by rw [if_neg (fun z => by omega)]⟩
  · rw [ilt0] at g
    refine And.intro o0 ?_
    refine And.intro (fun g2 => ?_) (fun g2 => ?_)
    · have g2 : m.2.2.1 (rd 0) 0 ≤ x := g2
      rw [eK, ileN (by omega)] at g2
      exact ⟨Nat.le_refl _, Nat.le_refl _, Or.inl rfl, rfl, by rw [if_neg (fun z => by omega)]⟩
    · have g2 : ¬ m.2.2.1 (rd 0) 0 ≤ x := g2
      rw [eK, ileN (by omega)] at g2
      exact ⟨Nat.le_refl _, Nat.le_refl _, Or.inr rfl, rfl, by rw [if_pos (show isK A.1 x from ⟨by omega, by omega⟩)]⟩
theorem c_Mo_isOut {m : jm_M} {rd : Nat → Nat} {A : RSt} {n : Nat} (h : MI m rd A n) (x z : Int32) : jm_C l D ca n_Mo_isOut [.ref (rd 0), .int x, .int z] m 0 0 (fun v m' => m' = m ∧ v = some (.int (if isO A.1 x z then 1 else 0))) := by
  refine jm_C_of (cd := cd_Mo_isOut) (ini := false) (by decide +kernel) ok_Mo_isOut (fun h => by cases h) (Nat.le_of_ble_eq_true rfl) ?_
  intro X hX
  have S := h.1
  have hV : MV m rd 0 A.1 := (h.2.1 0 (by decide)).1
  have hR : ROK A.1 := (h.2.1 0 (by decide)).2
  have hM : A.1.M ≤ 3 := hR.2.1
  have o0 : jm_ok m (rd 0) 6 := S.ok (Or.inl (by decide))
  have k3 : mkin 3 := Or.inl (by decide)
  refine jm_run hX [] 30 ?_
  refine And.intro o0 (And.intro (Nat.le_of_ble_eq_true rfl) (And.intro (Nat.le_of_ble_eq_true rfl) ⟨0, 0, _, Nat.le_refl _, Nat.le_refl _, c_Mo_isMachine h x, fun v m' hq => ?_⟩))
  obtain ⟨ee, rfl⟩ := hq
  have ee := ee.symm
  subst ee
  by_cases h1 : isM A.1 x
  · rw [if_pos h1]
    have hou : 1 ≤ A.1.O x.toInt.toNat ∧ A.1.O x.toInt.toNat ≤ 3 := hR.2.2.2.1 x.toInt.toNat (by omega)
    have ex : x = nI x.toInt.toNat := i_of h1.1
    have hin : vp_in x (m.2.1 (rd 3)).2 := by rw [ex]; exact vin_of (S.len k3) (show x.toInt.toNat < 6 by omega) (by decide)
    have eo : m.2.2.1 (rd 3) x.toNatClampNeg = nI (A.1.O x.toInt.toNat) := by
      have e2 : x.toNatClampNeg = x.toInt.toNat := by
        conv => lhs; rw [ex]
        exact nI_c (by omega)
      rw [e2]
      have := hV.2.2.2.1 x.toInt.toNat (by omega)
      rw [show 3 * 0 + x.toInt.toNat = x.toInt.toNat by omega] at this
      exact this
    refine And.intro (fun g => absurd g (by decide)) (fun _ => ?_)
    refine And.intro (fun g => ?_) (fun g => ?_)
    · rw [ilt0] at g
      exact ⟨Nat.le_refl _, Nat.le_refl _, Or.inl rfl, rfl, by rw [if_neg (fun z => by omega)]⟩
    · rw [ilt0] at g
      refine And.intro o0 ⟨some (rd 3), S.2.2 3 k3 (by decide), And.intro (S.ok k3) (And.intro hin ?_)⟩
      refine And.intro (fun g2 => ?_) (fun g2 => ?_)
      · have g2 : m.2.2.1 (rd 3) x.toNatClampNeg ≤ z := g2
        rw [eo, ileN (by omega)] at g2
        exact ⟨Nat.le_refl _, Nat.le_refl _, Or.inl rfl, rfl, by rw [if_neg (fun z => by omega)]⟩
      · have g2 : ¬ m.2.2.1 (rd 3) x.toNatClampNeg ≤ z := g2
        rw [eo, ileN (by omega)] at g2
        exact ⟨Nat.le_refl _, Nat.le_refl _, Or.inr rfl, rfl, by rw [if_pos (show isO A.1 x z from ⟨h1, by omega, by omega⟩)]⟩
  · rw [if_neg h1]
    refine And.intro (fun _ => ?_) (fun g => absurd rfl g)
    exact ⟨Nat.le_refl _, Nat.le_refl _, Or.inl rfl, rfl, by rw [if_neg (fun z => h1 z.1)]⟩
theorem c_Mo_isFree {m : jm_M} {rd : Nat → Nat} {A : RSt} {n : Nat} (h : MI m rd A n) (x y z : Int32) : jm_C l D ca n_Mo_isFree [.ref (rd 0), .int x, .int y, .int z] m 0 0 (fun v m' => m' = m ∧ v = some (.int (if isFr A.1 x y z then 1 else 0))) := by
  refine jm_C_of (cd := cd_Mo_isFree) (ini := false) (by decide +kernel) ok_Mo_isFree (fun h => by cases h) (Nat.le_of_ble_eq_true rfl) ?_
  intro X hX
  have S := h.1
  have hV : MV m rd 0 A.1 := (h.2.1 0 (by decide)).1
  have hR : ROK A.1 := (h.2.1 0 (by decide)).2
  have hM : A.1.M ≤ 3 := hR.2.1
  have o0 : jm_ok m (rd 0) 6 := S.ok (Or.inl (by decide))
  have k3 : mkin 3 := Or.inl (by decide)
  refine jm_run hX [] 30 ?_
  refine And.intro o0 (And.intro (Nat.le_of_ble_eq_true rfl) (And.intro (Nat.le_of_ble_eq_true rfl) ⟨0, 0, _, Nat.le_refl _, Nat.le_refl _, c_Mo_isOut h x z, fun v m' hq => ?_⟩))
  obtain ⟨ee, rfl⟩ := hq
  have ee := ee.symm
  subst ee
  by_cases h1 : isO A.1 x z
  · rw [if_pos h1]
    refine And.intro (fun g => absurd g (by decide)) (fun _ => ?_)
    refine And.intro o0 (And.intro (Nat.le_of_ble_eq_true rfl) (And.intro (Nat.le_of_ble_eq_true rfl) ⟨0, 0, _, Nat.le_refl _, Nat.le_refl _, c_Mo_isKind h y, fun v m' hq => ?_⟩))
    obtain ⟨ee, rfl⟩ := hq
    have ee := ee.symm
    subst ee
    by_cases h2 : isK A.1 y
    · rw [if_pos h2]
      refine And.intro (fun g => absurd g (by decide)) (fun _ => ?_)
      have hou : 1 ≤ A.1.O x.toInt.toNat ∧ A.1.O x.toInt.toNat ≤ 3 := hR.2.2.2.1 x.toInt.toNat (by omega)
      have ex : x = nI x.toInt.toNat := i_of h1.1.1
      have hin : vp_in x (m.2.1 (rd 3)).2 := by rw [ex]; exact vin_of (S.len k3) (show x.toInt.toNat < 6 by omega) (by decide)
      have eo : m.2.2.1 (rd 3) x.toNatClampNeg - 1 = nI (A.1.O x.toInt.toNat - 1) := by
        have e2 : x.toNatClampNeg = x.toInt.toNat := by
          conv => lhs; rw [ex]
          exact nI_c (by omega)
        rw [e2]
        have := hV.2.2.2.1 x.toInt.toNat (by omega)
        rw [show 3 * 0 + x.toInt.toNat = x.toInt.toNat by omega] at this
        rw [this]
        exact pk_sub (b := 1) hou.1
      refine And.intro o0 ⟨some (rd 3), S.2.2 3 k3 (by decide), And.intro (S.ok k3) (And.intro hin ?_)⟩
      refine And.intro (fun g2 => ?_) (fun g2 => ?_)
      · have g2 : m.2.2.1 (rd 3) x.toNatClampNeg - 1 ≤ z := g2
        rw [eo, ileN (by omega)] at g2
        exact ⟨Nat.le_refl _, Nat.le_refl _, Or.inl rfl, rfl, by rw [if_neg (fun z => by omega)]⟩
      · have g2 : ¬ m.2.2.1 (rd 3) x.toNatClampNeg - 1 ≤ z := g2
        rw [eo, ileN (by omega)] at g2
        exact ⟨Nat.le_refl _, Nat.le_refl _, Or.inr rfl, rfl, by rw [if_pos (show isFr A.1 x y z from ⟨h1, h2, by omega⟩)]⟩
    · rw [if_neg h2]
      refine And.intro (fun _ => ?_) (fun g => absurd rfl g)
      exact ⟨Nat.le_refl _, Nat.le_refl _, Or.inl rfl, rfl, by rw [if_neg (fun z => h2 z.2.1)]⟩
  · rw [if_neg h1]
    refine And.intro (fun _ => ?_) (fun g => absurd rfl g)
    exact ⟨Nat.le_refl _, Nat.le_refl _, Or.inl rfl, rfl, by rw [if_neg (fun z => h1 z.1)]⟩
/-! Telling: the line changes, the solution isn't kept, the turn goes on. -/
def mTou (m : jm_M) (rd : Nat → Nat) : jm_M := uI (uI m (rd 0) 15 (bI false)) (rd 33) 0 (m.2.2.1 (rd 33) 0 + 1)
theorem c_Mo_touch {m : jm_M} {rd : Nat → Nat} (S : MST m rd) : jm_C l D ca n_Mo_touch [.ref (rd 0)] m 0 0 (fun v m' => v = none ∧ m' = mTou m rd) := by
  refine jm_C_of (cd := cd_Mo_touch) (ini := false) (by decide +kernel) ok_Mo_touch (fun h => by cases h) (Nat.le_of_ble_eq_true rfl) ?_
  intro X hX
  have o0 : jm_ok m (rd 0) 6 := S.ok (Or.inl (by decide))
  have k0 : mkin 0 := Or.inl (by decide)
  have k33 : mkin 33 := Or.inr (Or.inr (Or.inr rfl))
  have hin : vp_in (nI 0) (m.2.1 (rd 33)).2 := vin_of (S.len k33) (by decide) (by decide)
  refine jm_run hX [] 30 ?_
  refine And.intro o0 (And.intro (Or.inl rfl) ?_)
  refine And.intro o0 ⟨some (rd 33), S.2.2 33 k33 (by decide), And.intro rfl (And.intro rfl (And.intro (S.ok k33) (And.intro hin (And.intro (S.ok k33) (And.intro hin ?_)))))⟩
  refine ⟨Nat.le_refl _, Nat.le_refl _, trivial, rfl, ?_⟩
  show uI (uI m (rd 0) 15 0) (rd 33) 0 (va_up m.2.2.1 (rd 0) _ (rd 33) 0 + 1) = _
  rw [va_up_ne _ _ (S.ne k33 k0 (by decide))]
  rfl
end RB19
/-- the line now and what is told of it change together -/
theorem MI.tn {m m' : jm_M} {rd : Nat → Nat} {A : RSt} {n : Nat} {p : Nat → Prop} {R' : RD} {kp : Bool} (h : MI m rd A n) (hF : FM rd p m m') (hp : ∀ k, p k → k ≤ 10 ∨ k = 33) (hV : MV m' rd 0 R') (hR : ROK R') (hV1 : MV m' rd 1 A.2.1) (h0 : ∀ j, j ≠ 15 → m'.2.2.1 (rd 0) j = m.2.2.1 (rd 0) j) (h15 : m'.2.2.1 (rd 0) 15 = bI kp) (h33 : m'.2.2.1 (rd 33) = va_up (m.2.2.1 (rd 33)) 0 (m.2.2.1 (rd 33) 0 + 1)) : MI m' rd (R', A.2.1, A.2.2.1, A.2.2.2.1, A.2.2.2.2.1, A.2.2.2.2.2.1, kp) (n + 1) := by
  obtain ⟨S, h1, h2, h3, h4, h5, h6, t, hh, c1, c2, c3, c4⟩ := h
  have at' : ∀ k, mkin k → 11 ≤ k → k ≠ 33 → m'.2.2.1 (rd k) = m.2.2.1 (rd k) ∧ m'.2.2.2.1 (rd k) = m.2.2.2.1 (rd k) := fun k hk hr hn => hF.at S hk (fun q => by have := hp k q; omega)
  refine ⟨hF.S S, fun f hf => ?_, ?_, ?_, fun j hj => ?_, ?_, h15, fun f => if f = 0 then t 0 + 1 else t f, hh, fun f hf => ?_, by omega, ?_, ?_⟩
  · by_cases w : f = 0
    · subst w; exact ⟨hV, hR⟩
    · have : f = 1 := by omega
      subst this
      exact ⟨hV1, (h1 1 (by decide)).2⟩
  · rw [(at' 16 (Or.inr (Or.inl (by decide))) (by decide) (by decide)).2]; exact h2
  · rw [(at' 25 (Or.inr (Or.inl (by decide))) (by decide) (by decide)).2]; exact h3
  · rw [(at' 11 (Or.inl (by decide)) (by decide) (by decide)).1, (at' 12 (Or.inl (by decide)) (by decide) (by decide)).2, (at' 13 (Or.inl (by decide)) (by decide) (by decide)).2]; exact h4 j hj
  · rw [h0 14 (by decide)]; exact h5
  · rw [h33]
    by_cases w : f = 0
    · subst w
      show t 0 + 1 ≤ n + 1 ∧ _ = nI (t 0 + 1)
      rw [va_up_self, (c1 0 (by decide)).2, nI_1]
      exact ⟨by have := (c1 0 (by decide)).1; omega, rfl⟩
    · dsimp only
      rw [va_up_ne _ _ w, if_neg w]
      exact ⟨by have := (c1 f hf).1; omega, (c1 f hf).2⟩
  · rw [h0 32 (by decide)]; exact c3
  · rw [h0 31 (by decide)]
    rcases c4 with q | ⟨f, q1, q2, q3, q4⟩
    · exact Or.inl q
    · refine Or.inr ⟨f, q1, q2, ?_⟩
      by_cases w : f = 0
      · subst w
        show hh ≤ t 0 + 1 ∧ (hh = t 0 + 1 → _)
        exact ⟨by omega, fun z => absurd z (by omega)⟩
      · have : f = 1 := by omega
        subst this
        refine ⟨q3, fun z => ?_⟩
        exact (q4 z).mv (at' 23 (Or.inr (Or.inl (by decide))) (by decide) (by decide)).2 (at' 24 (Or.inr (Or.inl (by decide))) (by decide) (by decide)).2
theorem MI.tell {m m1 : jm_M} {rd : Nat → Nat} {A : RSt} {n : Nat} {p : Nat → Prop} {R' : RD} (h : MI m rd A n) (hF : FM rd p m m1) (hp : ∀ k, p k → 1 ≤ k ∧ k ≤ 10) (hV : MV m1 rd 0 R') (hR : ROK R') (hV1 : MV m1 rd 1 A.2.1) : FMa rd m (mTou m1 rd) ∧ MI (mTou m1 rd) rd (R', A.2.1, A.2.2.1, A.2.2.2.1, A.2.2.2.2.1, A.2.2.2.2.2.1, false) (n + 1) := by
  have S := h.1
  have S1 := hF.S S
  have k0 : mkin 0 := Or.inl (by decide)
  have k33 : mkin 33 := Or.inr (Or.inr (Or.inr rfl))
  have e0 := (hF.at S k0 (fun q => by have := hp 0 q; omega)).1
  have e33 := (hF.at S k33 (fun q => by have := hp 33 q; omega)).1
  have hFt : FM rd (fun k => k = 0 ∨ k = 33) m1 (mTou m1 rd) := FM.tr (m2 := uI m1 (rd 0) 15 (bI false)) (FM.uI (p := fun k => k = 0 ∨ k = 33) k0 (Or.inl rfl)) (FM.uI (p := fun k => k = 0 ∨ k = 33) k33 (Or.inr rfl))
  have hF2 : FM rd (fun k => k ≤ 10 ∨ k = 33) m (mTou m1 rd) := (hF.mo (fun k q => Or.inl (hp k q).2)).tr (hFt.mo (fun k q => by omega))
  have f0 : (mTou m1 rd).2.2.1 (rd 0) = va_up (m1.2.2.1 (rd 0)) 15 (bI false) := by
    show va_up (va_up m1.2.2.1 (rd 0) (va_up (m1.2.2.1 (rd 0)) 15 (bI false))) (rd 33) _ (rd 0) = _
    rw [va_up_ne _ _ (S1.ne k0 k33 (by decide)), va_up_self]
  have f33 : (mTou m1 rd).2.2.1 (rd 33) = va_up (m.2.2.1 (rd 33)) 0 (m.2.2.1 (rd 33) 0 + 1) := by
    show va_up (va_up m1.2.2.1 (rd 0) _) (rd 33) (va_up (va_up m1.2.2.1 (rd 0) _ (rd 33)) 0 (m1.2.2.1 (rd 33) 0 + 1)) (rd 33) = _
    rw [va_up_self, va_up_ne _ _ (S1.ne k33 k0 (by decide)), e33]
  have fk : ∀ k, 1 ≤ k → k ≤ 10 → (mTou m1 rd).2.2.1 (rd k) = m1.2.2.1 (rd k) := fun k q1 q2 => (hFt.at S1 (Or.inl (by omega)) (by omega)).1
  refine ⟨hF2.a, h.tn hF2 (fun k q => q) (hV.mv ?_ fk) hR (hV1.mv ?_ fk) (fun j hj => ?_) ?_ f33⟩
  · rw [f0, va_up_ne _ _ (by decide)]
  · rw [f0, va_up_ne _ _ (by decide)]
  · rw [f0, va_up_ne _ _ hj, e0]
  · rw [f0, va_up_self]
